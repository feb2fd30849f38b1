/** What all tests share: each call with the answer that is due, and how many were right. */
final class Check {
    private final String name;
    private int right;
    private int wrong;

    Check(String name) {
        this.name = name;
    }

    void due(String call, long got, long want) {
        if (got == want) {
            right++;
            return;
        }
        wrong++;
        if (wrong <= 50) {
            System.out.println(name + ": " + call + " answered " + got + ", due is " + want);
        }
    }

    boolean isWrong() {
        return wrong > 0;
    }

    /** Prints the line that closes a test, and ends the run if anything was wrong. */
    void close() {
        System.out.println(name + ": " + right + " passed, " + wrong + " failed");
        if (wrong > 0) {
            System.exit(1);
        }
    }

    /** Feeds a text in twenties of bytes, and cuts off what filled the last one up. */
    static void feed(TriSplits x, String text) {
        int before = x.count(2);
        int[] word = new int[5];
        for (int i = 0; i < text.length(); i += 20) {
            for (int w = 0; w < 5; w++) {
                word[w] = 0;
                for (int b = 0; b < 4; b++) {
                    int at = i + 4 * w + b;
                    word[w] = word[w] << 8 | (at < text.length() ? text.charAt(at) & 255 : 0);
                }
            }
            x.feed(word[0], word[1], word[2], word[3], word[4]);
        }
        x.end(before + text.length());
    }

    static int run(TriSplits x, String text) {
        feed(x, text);
        return x.run();
    }

    /** What letter or spell tell, as a text. */
    static String letters(TriSplits x, int place, boolean factors) {
        StringBuilder text = new StringBuilder();
        int many = factors ? x.spell(place, TriSplits.NONE) : x.letter(place, TriSplits.NONE);
        for (int k = 0; k < many; k++) {
            text.append((char) (factors ? x.spell(place, k) : x.letter(place, k)));
        }
        return text.toString();
    }
}
