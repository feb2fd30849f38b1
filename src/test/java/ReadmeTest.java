import java.io.IOException;
import java.lang.reflect.Method;
import java.lang.reflect.Modifier;
import java.nio.file.Files;
import java.nio.file.Path;
import java.util.regex.Matcher;
import java.util.regex.Pattern;

/** README.md: its example answers what is written behind each call, and it names each call of the class. */
public final class ReadmeTest {
    private static final Check CHECK = new Check("ReadmeTest");
    private static final Path README = Path.of("README.md");

    /** A call as README.md writes it; what it says of its answer must be what is answered. */
    private static void says(String readme, String call, long answer) {
        Matcher line = Pattern.compile(Pattern.quote("x." + call + ";") + " +// (-?\\d+)").matcher(readme);
        boolean found = line.find();
        CHECK.due("README.md has " + call, found ? 1 : 0, 1);
        if (found) {
            CHECK.due(call + " in README.md", answer, Long.parseLong(line.group(1)));
        }
    }

    private static void example(String readme) {
        TriSplits x = new TriSplits();
        says(readme, "put(0, 0b10011)", x.put(0, 0b10011));
        says(readme, "order(0)", x.order(0));
        says(readme, "register(0, 1)", x.register(0, 1));
        says(readme, "step(15)", x.step(15));
        says(readme, "feed(0x313d7472, 0x69203320, 0x31000000, 0, 0)", x.feed(0x313d7472, 0x69203320, 0x31000000, 0, 0));
        says(readme, "end(9)", x.end(9));
        says(readme, "run()", x.run());
        says(readme, "multiply(0, 1, 2)", x.multiply(0, 1, 2));
        CHECK.due("(x^3+x+1)(x^4+x+1)", Check.letters(x, 2, true).equals("(x^3+x+1)(x^4+x+1)") ? 1 : 0, 1);
        says(readme, "spell(2, TriSplits.NONE)", x.spell(2, TriSplits.NONE));
        says(readme, "spell(2, 1)", x.spell(2, 1));
        says(readme, "undo()", x.undo());
        says(readme, "rest(0, 2, 3)", x.rest(0, 2, 3));
    }

    private static void names(String readme) {
        for (Method method : TriSplits.class.getDeclaredMethods()) {
            if (Modifier.isPublic(method.getModifiers())) {
                CHECK.due("README.md names " + method.getName(), readme.contains("`" + method.getName() + "`") ? 1 : 0, 1);
            }
        }
    }

    private static void callsOfTheExample(String readme) {
        Matcher line = Pattern.compile("(?m)^x\\.").matcher(readme);
        int many = 0;
        while (line.find()) {
            many++;
        }
        CHECK.due("calls in README.md's example, each of them tried", many, 12);
    }

    public static void main(String[] args) throws IOException {
        String readme = Files.readString(README);
        example(readme);
        callsOfTheExample(readme);
        names(readme);
        CHECK.close();
    }
}
