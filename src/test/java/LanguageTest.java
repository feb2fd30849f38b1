import java.io.IOException;
import java.lang.reflect.Constructor;
import java.lang.reflect.Field;
import java.lang.reflect.Method;
import java.lang.reflect.Modifier;
import java.nio.file.Files;
import java.nio.file.Path;
import java.util.ArrayList;
import java.util.List;
import java.util.Set;
import java.util.TreeSet;
import java.util.regex.Matcher;
import java.util.regex.Pattern;

/** The rules of ../shared/LANGUAGE.md that can be seen from outside, and the face as the document prints it. */
public final class LanguageTest {
    private static final Check CHECK = new Check("LanguageTest");
    private static final Path SOURCE = Path.of("src/main/java/TriSplits.java");
    private static final Path DOCUMENT = Path.of("../shared/DOC.md");

    private static void fits(String what, boolean right) {
        CHECK.due(what, right ? 1 : 0, 1);
    }

    private static String plain(String source) {
        return source.replaceAll("(?s)/\\*.*?\\*/", "").replaceAll("//[^\n]*", "").replaceAll("\"[^\"\n]*\"", "\"\"").replaceAll("'[^'\n]*'", "' '");
    }

    private static String parameters(Method m) {
        StringBuilder b = new StringBuilder();
        for (Class<?> c : m.getParameterTypes()) {
            b.append(b.length() > 0 ? "," : "").append(c.getSimpleName());
        }
        return m.getReturnType().getSimpleName() + " " + m.getName() + "(" + b + ")";
    }

    private static void face() throws IOException {
        Set<String> due = new TreeSet<>();
        Matcher m = Pattern.compile("public (int|long) (\\w+)\\(([^)]*)\\);").matcher(Files.readString(DOCUMENT));
        while (m.find()) {
            due.add(m.group(1) + " " + m.group(2) + "(" + m.group(3).replaceAll(" \\w+(,|$)", "$1").replace(" ", "") + ")");
        }
        CHECK.due("methods that the document prints", due.size(), 49);
        Set<String> own = new TreeSet<>();
        for (Method method : TriSplits.class.getDeclaredMethods()) {
            if (Modifier.isPublic(method.getModifiers())) {
                own.add(parameters(method));
            } else {
                fits(method + " is private", Modifier.isPrivate(method.getModifiers()));
            }
        }
        fits("the public methods are the document's: " + own, own.equals(due));
        int mod = TriSplits.class.getModifiers();
        fits("public final", Modifier.isPublic(mod) && Modifier.isFinal(mod));
        CHECK.due("constructors", TriSplits.class.getDeclaredConstructors().length, 1);
        for (Constructor<?> c : TriSplits.class.getDeclaredConstructors()) {
            fits("the constructor", Modifier.isPublic(c.getModifiers()) && c.getParameterCount() == 0);
        }
        for (Field f : TriSplits.class.getDeclaredFields()) {
            fits(f + " is private", Modifier.isPrivate(f.getModifiers()) || f.getName().equals("NONE"));
        }
    }

    private static void members() {
        Set<String> names = new TreeSet<>();
        for (Method method : TriSplits.class.getDeclaredMethods()) {
            if (Modifier.isPublic(method.getModifiers())) {
                names.add(method.getName());
            }
        }
        List<Class<?>> classes = new ArrayList<>(List.of(TriSplits.class.getDeclaredClasses()));
        for (Class<?> c : classes) {
            fits(c + " is static and not public", Modifier.isStatic(c.getModifiers()) && !Modifier.isPublic(c.getModifiers()));
        }
        classes.add(TriSplits.class);
        fits("some twelve classes", classes.size() <= 12);
        for (Class<?> c : classes) {
            int fields = 0;
            for (Field f : c.getDeclaredFields()) {
                fields += Modifier.isStatic(f.getModifiers()) ? 0 : 1;
                fits(f + ": static fields are final", !Modifier.isStatic(f.getModifiers()) || Modifier.isFinal(f.getModifiers()));
            }
            fits(c + ": some twenty fields", fields <= 20);
            for (Method method : c.getDeclaredMethods()) {
                fits(method + ": seven parameters", method.getParameterCount() <= 7);
                fits(method + ": no name of a public one", c == TriSplits.class && Modifier.isPublic(method.getModifiers())
                    || !names.contains(method.getName()));
            }
        }
    }

    private static void words(String source) {
        String[] never = {"\\bthrow\\b", "\\bthrows\\b", "\\btry\\b", "\\bcatch\\b", "\\bfinally\\b", "\\bsynchronized\\b", "\\bassert\\b", "->", "::",
            "\\bpackage\\b", "\\bstatic\\s*\\{", "\\bwhile\\s*\\(\\s*true", "\\bprotected\\b", "\\bvar\\b", "\\bException\\b", "Exact\\b", "\\bnative\\b",
            "\\binstanceof\\b", "\\bObject\\b", "\\bequals\\b", "\\bhashCode\\b", "\\btoString\\b", "\\bimport\\b", "\\bthis\\s*\\)", "@"};
        for (String word : never) {
            fits("no " + word, !Pattern.compile(word).matcher(source).find());
        }
        Set<String> allowed = Set.of("Long.bitCount", "Long.numberOfLeadingZeros", "Long.numberOfTrailingZeros", "Math.min", "Math.max", "System.arraycopy");
        Matcher m = Pattern.compile("\\b(Long|Integer|Math|System|Arrays|Character|Byte|Short|Boolean|Double|Float|Thread|Runtime)\\.\\w+").matcher(source);
        while (m.find()) {
            fits("the library has " + m.group(), allowed.contains(m.group()));
        }
    }

    private static void lengths(List<String> lines) {
        for (int i = 0; i < lines.size(); i++) {
            Matcher m = Pattern.compile("^( {4}| {8})(?!static final class)[^ /*@}].*\\) \\{$").matcher(lines.get(i));
            if (m.find()) {
                int end = i;
                while (!lines.get(end).equals(m.group(1) + "}")) {
                    end++;
                }
                fits("at most sixty lines: " + lines.get(i).trim(), end - i < 60);
            }
        }
        for (int i = 0; i < lines.size(); i++) {
            for (int k = 0; k < lines.get(i).length(); k++) {
                fits("signs 1 to 127 in line " + (i + 1), lines.get(i).charAt(k) < 128);
            }
        }
    }

    public static void main(String[] args) throws IOException {
        face();
        members();
        words(plain(Files.readString(SOURCE)));
        lengths(Files.readAllLines(SOURCE));
        CHECK.close();
    }
}
