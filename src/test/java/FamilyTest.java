/** Promises 28 to 30, 32 to 41 and 45: SWAN, multiples, families of POLYS, FIELDS. */
public final class FamilyTest {
    private static final Check CHECK = new Check("FamilyTest");

    private static TriSplits with(long... polys) {
        TriSplits x = new TriSplits();
        for (int i = 0; i < polys.length; i++) {
            x.put(i, polys[i]);
        }
        return x;
    }

    private static void swan() {
        for (int n = 2; n <= 31; n++) {
            TriSplits x = new TriSplits();
            int even = 0;
            for (int k = 1; k < n; k++) {
                x.put(0, 1L << n | 1L << k | 1);
                boolean square = n % 2 == 0 && k % 2 == 0;
                int parity = x.poly(0, 6) % 2;
                even += !square && parity == 0 ? 1 : 0;
                CHECK.due("swan " + n + " " + k, x.swan(n, k), square ? -2 : parity);
            }
            CHECK.due("evens " + n, x.evens(n), even);
        }
        TriSplits x = new TriSplits();
        CHECK.due("swan 2000 1000", x.swan(2000, 1000), -2);
        CHECK.due("swan 1998 999", x.swan(1998, 999), 1);
        CHECK.due("swan 2000 1999", x.swan(2000, 1999), 0);
        CHECK.due("swan 1279 216", x.swan(1279, 216), 1);
        CHECK.due("swan 1279 1063", x.swan(1279, 1063), 1);
        CHECK.due("swan 1999 2", x.swan(1999, 2), 0);
        int[][] wrong = {{1, 1}, {2001, 1}, {5, 0}, {5, 5}, {5, -1}, {2000, 2000}, {0, 0}, {-4, -6}, {Integer.MIN_VALUE, 1}};
        for (int[] w : wrong) {
            CHECK.due("swan " + w[0] + " " + w[1], x.swan(w[0], w[1]), -1);
        }
        CHECK.due("evens 1", x.evens(1), -1);
        CHECK.due("evens 2001", x.evens(2001), -1);
        CHECK.due("evens -3", x.evens(-3), -1);
        CHECK.due("evens of 8: all odd k", x.evens(8), 4);
        // n/2 is 1000, a multiple of 4: each odd k has n k/2 at 0 modulo 4
        CHECK.due("evens 2000", x.evens(2000), 1000);
    }

    private static void multiples() {
        TriSplits x = with(7, 11, 3, 2, 1, 0, 31, 19, 49);
        CHECK.due("n of x^2+x+1", x.multiple(0, 0), 2);
        CHECK.due("k of x^2+x+1", x.multiple(0, 1), 1);
        CHECK.due("n of x^3+x+1", x.multiple(1, 0), 3);
        CHECK.due("k of x^3+x+1", x.multiple(1, 1), 1);
        CHECK.due("x+1 divides none", x.multiple(2, 0), -2);
        CHECK.due("x divides none", x.multiple(3, 1), -2);
        CHECK.due("1", x.multiple(4, 0), -2);
        CHECK.due("0", x.multiple(5, 0), -2);
        CHECK.due("x^4+x^3+x^2+x+1 divides none", x.multiple(6, 0), -2);
        CHECK.due("x^4+x+1", x.multiple(7, 1), 1);
        CHECK.due("7 times 11: n", x.multiple(8, 0), 5);
        CHECK.due("7 times 11: k", x.multiple(8, 1), 4);
        CHECK.due("what 2", x.multiple(0, 2), -1);
        CHECK.due("what -1", x.multiple(2, -1), -1);
        CHECK.due("PLACE 10", x.multiple(10, 0), -1);
        CHECK.due("PLACE -1", x.multiple(-1, 1), -1);
        // the least multiples of these have DEGREE 299, 300 and 301
        TriSplits y = with(68533, 67461, 68575);
        CHECK.due("n 299", y.multiple(0, 0), 299);
        CHECK.due("k of 299", y.multiple(0, 1), 249);
        CHECK.due("n 300", y.multiple(1, 0), 300);
        CHECK.due("k of 300", y.multiple(1, 1), 291);
        CHECK.due("n 301", y.multiple(2, 0), -2);
        CHECK.due("k of 301", y.multiple(2, 1), -2);
        SlowTriSplits slow = new SlowTriSplits();
        for (long f = 65537; f < 65700; f += 2) {
            y.put(0, f);
            slow.put(0, f);
            CHECK.due("n of " + f, y.multiple(0, 0), slow.multiple(0, 0));
            CHECK.due("k of " + f, y.multiple(0, 1), slow.multiple(0, 1));
        }
    }

    private static void trinomials() {
        TriSplits x = new TriSplits();
        int[] seven = {1, 3, 4, 6};
        CHECK.due("how many of 7", x.trinomial(7, false, -1), 4);
        for (int i = 0; i < 4; i++) {
            CHECK.due("of 7 the " + i, x.trinomial(7, false, i), seven[i]);
        }
        CHECK.due("of 7 the 4th", x.trinomial(7, false, 4), -2);
        CHECK.due("of 7 far more", x.trinomial(7, true, Integer.MAX_VALUE), -2);
        CHECK.due("of 6", x.trinomial(6, false, -1), 3);
        CHECK.due("of 6 the 1st", x.trinomial(6, false, 1), 3);
        CHECK.due("of 6, PRIMITIVE", x.trinomial(6, true, -1), 2);
        CHECK.due("of 6, PRIMITIVE, the 1st", x.trinomial(6, true, 1), 5);
        CHECK.due("of 8", x.trinomial(8, false, -1), 0);
        CHECK.due("of 8", x.trinomial(8, false, 0), -2);
        CHECK.due("of 2", x.trinomial(2, true, 0), 1);
        CHECK.due("of 24", x.trinomial(24, false, -1), 0);
        CHECK.due("of 23", x.trinomial(23, true, 0), 5);
        CHECK.due("of 12, IRREDUCIBLE", x.trinomial(12, false, 0), 3);
        CHECK.due("of 12, PRIMITIVE", x.trinomial(12, true, 0), -2);
        CHECK.due("of 1", x.trinomial(1, false, -1), -1);
        CHECK.due("of 25", x.trinomial(25, false, 0), -1);
        CHECK.due("below NONE", x.trinomial(7, false, -2), -1);
        int[] bare = {8, 8, 8, 8, 8, 8, 8, 13, 13, 13, 13, 13, 16, 16, 16, 19, 19, 19, 24, 24, 24, 24, 24};
        for (int i = 0; i < bare.length; i++) {
            CHECK.due("bare from " + (i + 2), x.bare(i + 2), bare[i]);
        }
        CHECK.due("bare from 1", x.bare(1), -1);
        CHECK.due("bare from 25", x.bare(25), -1);
        CHECK.due("bare from -1", x.bare(-1), -1);
    }

    private static void leastOnes() {
        TriSplits x = new TriSplits();
        long[] due = {2, 7, 11, 19, 37, 67, 131, 283, 515, 1033, 2053, 4105, 8219, 16417, 32771, 65579, 131081, 262153, 524327, 1048585};
        long[] primitive = {3, 7, 11, 19, 37, 67, 131, 285, 529, 1033, 2053, 4179, 8219, 16427, 32771, 65581, 131081, 262273, 524327, 1048585};
        for (int n = 1; n <= 20; n++) {
            CHECK.due("least " + n, x.least(n, false), due[n - 1]);
            CHECK.due("least PRIMITIVE " + n, x.least(n, true), primitive[n - 1]);
        }
        CHECK.due("least 0", x.least(0, false), -1);
        CHECK.due("least 21", x.least(21, true), -1);
        CHECK.due("least -1", x.least(-1, true), -1);
        long[] many = {2, 1, 2, 3, 6, 9, 18, 30, 56, 99};
        long[] manyPrimitive = {1, 1, 2, 2, 6, 6, 18, 16, 48, 60};
        for (int n = 1; n <= 10; n++) {
            CHECK.due("many " + n, x.many(n, false), many[n - 1]);
            CHECK.due("many PRIMITIVE " + n, x.many(n, true), manyPrimitive[n - 1]);
        }
        SlowTriSplits slow = new SlowTriSplits();
        for (int n = 1; n <= 31; n++) {
            CHECK.due("many " + n, x.many(n, false), slow.many(n, false));
            CHECK.due("many PRIMITIVE " + n, x.many(n, true), slow.many(n, true));
        }
        CHECK.due("many 31", x.many(31, false), 69273666);
        CHECK.due("many PRIMITIVE 31", x.many(31, true), 69273666);
        CHECK.due("many 30", x.many(30, false), 35790267);
        CHECK.due("many PRIMITIVE 30", x.many(30, true), 17820000);
        CHECK.due("many 0", x.many(0, false), -1);
        CHECK.due("many 32", x.many(32, true), -1);
    }

    private static void nextOnes() {
        TriSplits x = with(0, 2, 3, 7, 11, 31, 283, 2097151, 2097152, 4294967295L);
        long[] due = {2, 3, 7, 11, 13, 37, 285, -2, -2, -2};
        long[] primitive = {3, 3, 7, 11, 13, 37, 285, -2, -2, -2};
        for (int i = 0; i < 10; i++) {
            CHECK.due("next of PLACE " + i, x.next(i, false), due[i]);
            CHECK.due("next PRIMITIVE of PLACE " + i, x.next(i, true), primitive[i]);
        }
        x.put(0, 1);
        CHECK.due("next of 1", x.next(0, false), 2);
        x.put(0, 19);
        CHECK.due("next of 19", x.next(0, false), 25);
        x.put(0, 25);
        CHECK.due("next of 25", x.next(0, false), 31);
        CHECK.due("next PRIMITIVE of 25", x.next(0, true), 37);
        CHECK.due("next of PLACE 10", x.next(10, false), -1);
        CHECK.due("next of PLACE -1", x.next(-1, true), -1);
        // the last two of DEGREE 20
        long last = 2097151;
        while (!SlowTriSplits.irreducible(last)) {
            last--;
        }
        x.put(0, last - 1);
        CHECK.due("the last of DEGREE 20", x.next(0, false), last);
        x.put(0, last);
        CHECK.due("behind the last of DEGREE 20", x.next(0, false), -2);
    }

    private static void stays() {
        TriSplits x = new TriSplits();
        // x^2+x+1 has ORDER 3, all of 2^2 less 1
        CHECK.due("by 1", x.stays(2, 1, 1), 1);
        CHECK.due("by 3", x.stays(2, 1, 3), 1);
        CHECK.due("by 9", x.stays(2, 1, 9), 1);
        CHECK.due("by 2", x.stays(2, 1, 2), 0);
        CHECK.due("by 5", x.stays(2, 1, 5), 0);
        CHECK.due("by 6", x.stays(2, 1, 6), 0);
        CHECK.due("by 729", x.stays(2, 1, 729), 1);
        CHECK.due("by 1000", x.stays(2, 1, 1000), 0);
        // x^6+x^3+1 has ORDER 9, and 63 by 9 is 7
        CHECK.due("by 3", x.stays(6, 3, 3), 1);
        CHECK.due("by 7", x.stays(6, 3, 7), 0);
        // x^12+x^3+1: ORDER 45, 4095 by 45 is 91; x^9+x+1: ORDER 73, 511 by 73 is 7
        CHECK.due("by 15", x.stays(12, 3, 15), 1);
        CHECK.due("by 13", x.stays(12, 3, 13), 0);
        CHECK.due("by 73", x.stays(9, 1, 73), 1);
        CHECK.due("by 7", x.stays(9, 1, 7), 0);
        // x^6+x+1 is PRIMITIVE
        CHECK.due("by 21", x.stays(6, 1, 21), 1);
        CHECK.due("not IRREDUCIBLE", x.stays(8, 3, 3), -2);
        CHECK.due("a square", x.stays(4, 2, 3), -2);
        int[][] wrong = {{1, 1, 1}, {25, 1, 1}, {5, 0, 1}, {5, 5, 1}, {5, 2, 0}, {5, 2, 1001}, {8, 3, 0}, {5, -1, -1}};
        for (int[] w : wrong) {
            CHECK.due("stays " + w[0] + " " + w[1] + " " + w[2], x.stays(w[0], w[1], w[2]), -1);
        }
        SlowTriSplits slow = new SlowTriSplits();
        for (int n = 2; n <= 24; n++) {
            for (int k = 1; k < n; k++) {
                for (int m = 1; m < 60; m += 2) {
                    CHECK.due("stays " + n + " " + k + " " + m, new TriSplits().stays(n, k, m), slow.stays(n, k, m));
                }
            }
        }
        // the law is true: RISEN ones to DEGREE 31 split or not as it says
        for (int n = 2; n <= 15; n++) {
            for (int k = 1; k < n; k++) {
                for (int m = 1; m * n <= 31; m++) {
                    TriSplits y = with(1L << n | 1L << k | 1);
                    if (y.poly(0, 4) == 1) {
                        y.rise(0, m, 1);
                        CHECK.due("RISEN " + n + " " + k + " " + m, y.stays(n, k, m), y.poly(1, 4));
                    }
                }
            }
        }
    }

    private static void fields() {
        TriSplits x = with(19, 2, 0, 1, 6, 7, 3, 21, 11, 1L << 31 | 9);
        CHECK.due("LEAST of x", x.minimal(1, 0), 19);
        CHECK.due("LEAST of 0", x.minimal(2, 0), 2);
        CHECK.due("LEAST of 1", x.minimal(3, 0), 3);
        CHECK.due("LEAST of x^2+x", x.minimal(4, 0), 7);
        CHECK.due("LEAST of x^2+x+1", x.minimal(5, 0), 7);
        CHECK.due("LEAST of x+1", x.minimal(6, 0), 19);
        CHECK.due("LEAST by DEGREE 31", x.minimal(1, 9), 1L << 31 | 9);
        CHECK.due("LEAST by DEGREE 1", x.minimal(3, 6), 3);
        CHECK.due("LEAST by DEGREE 1", x.minimal(2, 1), 2);
        int[] traces = {0, 0, 0, 0, 0};
        int[] conjugates = {4, 1, 1, 2, 4};
        int[] elements = {1, 2, 3, 4, 6};
        for (int i = 0; i < elements.length; i++) {
            CHECK.due("TRACE of PLACE " + elements[i], x.trace(elements[i], 0), traces[i]);
            CHECK.due("CONJUGATES of PLACE " + elements[i], x.conjugates(elements[i], 0), conjugates[i]);
        }
        CHECK.due("TRACE of 1 by DEGREE 3", x.trace(3, 8), 1);
        CHECK.due("TRACE of x by DEGREE 3", x.trace(1, 8), 0);
        CHECK.due("TRACE of 1 by DEGREE 31", x.trace(3, 9), 1);
        CHECK.due("TRACE by DEGREE 1", x.trace(3, 1), 1);
        CHECK.due("CONJUGATES by DEGREE 31", x.conjugates(1, 9), 31);
        x.put(4, 8);
        CHECK.due("TRACE of x^3", x.trace(4, 0), 1);
        int[][] wrong = {{1, 7}, {1, 2}, {1, 3}, {0, 0}, {7, 8}, {9, 0}, {8, 8}, {1, 1}, {6, 1}};
        for (int[] w : wrong) {
            CHECK.due("minimal " + w[0] + " " + w[1], x.minimal(w[0], w[1]), -2);
            CHECK.due("trace " + w[0] + " " + w[1], x.trace(w[0], w[1]), -2);
            CHECK.due("conjugates " + w[0] + " " + w[1], x.conjugates(w[0], w[1]), -2);
            CHECK.due("log " + w[0] + " " + w[1], x.log(w[0], 3, w[1]), -2);
            CHECK.due("log by " + w[0] + " " + w[1], x.log(3, w[0], w[1]), -2);
        }
        for (int n = -1; n <= 10; n += 11) {
            CHECK.due("minimal", x.minimal(n, 0), -1);
            CHECK.due("minimal", x.minimal(1, n), -1);
            CHECK.due("trace", x.trace(n, 0), -1);
            CHECK.due("trace", x.trace(1, n), -1);
            CHECK.due("conjugates", x.conjugates(n, 0), -1);
            CHECK.due("conjugates", x.conjugates(1, n), -1);
            CHECK.due("log", x.log(n, 1, 0), -1);
            CHECK.due("log", x.log(1, n, 0), -1);
            CHECK.due("log", x.log(1, 1, n), -1);
            CHECK.due("roots", x.roots(n, 0), -1);
            CHECK.due("roots", x.roots(1, n), -1);
        }
    }

    private static void logs() {
        TriSplits x = with(19, 2, 0, 1, 7, 6, 3, 65581, 131081, 37);
        CHECK.due("1 by x", x.log(3, 1, 0), 0);
        CHECK.due("x by x", x.log(1, 1, 0), 1);
        CHECK.due("x+1 by x", x.log(6, 1, 0), 4);
        CHECK.due("x^2+x by x^2+x+1", x.log(5, 4, 0), 2);
        CHECK.due("x by x^2+x+1", x.log(1, 4, 0), -3);
        CHECK.due("0 by x", x.log(2, 1, 0), -3);
        CHECK.due("0 by 0", x.log(2, 2, 0), 1);
        CHECK.due("1 by 0", x.log(3, 2, 0), 0);
        CHECK.due("x by 0", x.log(1, 2, 0), -3);
        CHECK.due("x by 1", x.log(1, 3, 0), -3);
        CHECK.due("1 by 1", x.log(3, 3, 0), 0);
        CHECK.due("1 by 1 by x", x.log(3, 3, 1), 0);
        CHECK.due("0 by 1 by x and 1", x.log(2, 3, 6), -3);
        CHECK.due("DEGREE 17", x.log(3, 1, 8), -2);
        x.power(1, 65534, 7, 4);
        CHECK.due("the last but one by DEGREE 16", x.log(4, 1, 7), 65534);
        x.power(1, 12345, 7, 4);
        CHECK.due("12345 by DEGREE 16", x.log(4, 1, 7), 12345);
        x.power(1, 256, 7, 4);
        CHECK.due("256 by DEGREE 16", x.log(4, 1, 7), 256);
        for (int e = 0; e < 31; e++) {
            x.power(6, e, 9, 4);
            CHECK.due("by x+1", x.log(4, 6, 9), e);
        }
    }

    private static void roots() {
        TriSplits x = with(19, 7, 0, 1, 11, 21, 2, 3, 1L << 16 | 2, 8219);
        CHECK.due("of x^2+x+1", x.roots(1, 0), 2);
        CHECK.due("of x^4+x+1", x.roots(0, 0), 4);
        CHECK.due("of x^3+x+1", x.roots(4, 0), 0);
        CHECK.due("of a square", x.roots(5, 0), 2);
        CHECK.due("of 0", x.roots(2, 0), 16);
        CHECK.due("of 1", x.roots(3, 0), 0);
        CHECK.due("of x^16+x", x.roots(8, 0), 16);
        CHECK.due("of x^16+x by DEGREE 3", x.roots(8, 4), 2);
        CHECK.due("of x^16+x by DEGREE 2", x.roots(8, 1), 4);
        CHECK.due("of x by x", x.roots(6, 6), 1);
        CHECK.due("of x+1 by x", x.roots(7, 6), 1);
        CHECK.due("of 0 by x+1", x.roots(2, 7), 2);
        CHECK.due("of x^2+x+1 by x", x.roots(1, 6), 0);
        CHECK.due("by no IRREDUCIBLE one", x.roots(1, 5), -2);
        CHECK.due("by 0", x.roots(1, 2), -2);
        CHECK.due("by 1", x.roots(1, 3), -2);
        CHECK.due("by DEGREE 13", x.roots(1, 9), -2);
        x.put(9, 4179);
        CHECK.due("by DEGREE 12", x.roots(2, 9), 4096);
        CHECK.due("by DEGREE 12", x.roots(0, 9), 4);
        x.put(8, 4294967295L);
        CHECK.due("(x+1)^31", x.roots(8, 9), 1);
    }

    public static void main(String[] args) {
        swan();
        multiples();
        trinomials();
        leastOnes();
        nextOnes();
        stays();
        fields();
        logs();
        roots();
        CHECK.close();
    }
}
