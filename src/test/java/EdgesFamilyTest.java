/**
 * The edges that promises 28 to 30, 32 to 41 and 45 name: SWAN, multiples, families of POLYS, FIELDS.
 * The PLACES are those of Whole.POLYS: 0 x^3+x+1, 1 x^4+x+1, 2 x, 3 0, 4 1, 5 x^31+x^3+1, 6 x^2+x,
 * 7 (x+1)^31, 8 x+1, 9 (x^2+x+1)^2.
 */
public final class EdgesFamilyTest {
    private static final Edges EDGES = new Edges("EdgesFamilyTest");
    private static final int[] NO_PLACES = {-1, 10, -2, 11, Integer.MIN_VALUE, Integer.MAX_VALUE};
    private static final long MOST = 4294967295L;
    private static final int ZERO = 3;
    private static final int ONE = 4;
    private static final int HIGHEST = 5;
    private static final int ALL_BITS = 7;

    private static TriSplits with(long... polys) {
        TriSplits x = new TriSplits();
        for (int i = 0; i < polys.length; i++) {
            x.put(i, polys[i]);
        }
        return x;
    }

    private static long tri(int n, int k) {
        return 1L << n | 1L << k | 1;
    }

    // ---- promises 28 and 29

    /** "(n 2 to 2000, k 1 to n less 1)"; "NONE without these", of squares, too. */
    private static void swanWithout() {
        int[][] wrong = {{1, 1}, {1, 0}, {0, 0}, {0, -1}, {-1, -2}, {2001, 1}, {2001, 2000}, {2002, 2}, {2, 0}, {2, 2}, {2, 3}, {3, 0}, {3, 3}, {4, 0},
            {4, 4}, {2000, 0}, {2000, -1}, {2000, 2000}, {2000, 2001}, {5, -1}, {6, -2}, {5, Integer.MIN_VALUE}, {5, Integer.MAX_VALUE},
            {Integer.MIN_VALUE, 1}, {Integer.MAX_VALUE, 1}};
        for (int[] w : wrong) {
            EDGES.nothing("swan " + w[0] + " " + w[1], -1, x -> x.swan(w[0], w[1]));
        }
        int[] noEvens = {1, 0, -1, 2001, 2002, Integer.MIN_VALUE, Integer.MAX_VALUE};
        for (int n : noEvens) {
            EDGES.nothing("evens " + n, -1, x -> x.evens(n));
        }
    }

    /** The ends of n and k, one of each case of SWAN: "-2: it is a square". */
    private static void swanCases() {
        int[][] due = {{2, 1, 1}, {3, 1, 1}, {3, 2, 1}, {4, 2, -2}, {4, 1, 1}, {4, 3, 1}, {6, 3, 1}, {8, 1, 0}, {8, 7, 0}, {6, 1, 1}, {6, 5, 1},
            {10, 1, 0}, {10, 3, 1}, {10, 5, 1}, {7, 2, 0}, {7, 4, 1}, {7, 6, 1}, {7, 1, 1}, {7, 3, 1}, {9, 2, 0}, {9, 6, 0}, {9, 4, 1}, {9, 8, 1}, {5, 2, 1},
            {5, 4, 0}, {13, 2, 1}, {13, 6, 0}, {11, 2, 1}, {11, 4, 0}, {2000, 1, 0}, {2000, 1999, 0}, {2000, 1000, -2}, {2000, 2, -2}, {2000, 1998, -2},
            {1999, 1, 1}, {1999, 1998, 1}, {1999, 2, 0}, {1999, 1997, 0}, {1998, 999, 1}, {1998, 1, 1}, {1998, 2, -2}};
        for (int[] d : due) {
            EDGES.nothing("swan " + d[0] + " " + d[1], d[2], x -> x.swan(d[0], d[1]));
        }
    }

    /** To DEGREE 31 SWAN tells what splitting tells; above it what its words tell. */
    private static void swanOfAll() {
        SlowTriSplits slow = new SlowTriSplits();
        for (int n = 2; n <= 31; n++) {
            for (int k = 1; k < n; k++) {
                boolean square = n % 2 == 0 && k % 2 == 0;
                EDGES.due("swan " + n + " " + k, new TriSplits().swan(n, k), square ? -2 : SlowTriSplits.factors(tri(n, k)).size() % 2);
            }
        }
        for (int n = 2; n <= 2000; n += n < 40 || n > 1980 ? 1 : 97) {
            EDGES.due("evens " + n, new TriSplits().evens(n), slow.evens(n));
            for (int k = 1; k < n; k += n < 100 ? 1 : 13) {
                EDGES.due("swan " + n + " " + k, new TriSplits().swan(n, k), slow.swan(n, k));
            }
        }
        EDGES.nothing("evens 2", 0, x -> x.evens(2));
        EDGES.nothing("evens 2000", 1000, x -> x.evens(2000));
    }

    // ---- promise 30

    /** "NONE without these"; "(DEGREE 1 and more)"; "-2: there is none such, the POLY is no such one". */
    private static void multipleEdges() {
        int[] wrong = {-1, 2, -2, Integer.MIN_VALUE, Integer.MAX_VALUE};
        for (int place = 0; place <= 9; place++) {
            int p = place;
            for (int what : wrong) {
                EDGES.nothing("multiple of " + place + ", what " + what, -1, x -> x.multiple(p, what));
            }
        }
        for (int none : NO_PLACES) {
            EDGES.nothing("n of PLACE " + none, -1, x -> x.multiple(none, 0));
            EDGES.nothing("k of PLACE " + none, -1, x -> x.multiple(none, 1));
        }
        int[] n = {3, 4, -2, -2, -2, 31, -2, -2, -2, 4};
        int[] k = {1, 1, -2, -2, -2, 3, -2, -2, -2, 2};
        for (int place = 0; place <= 9; place++) {
            int p = place;
            EDGES.nothing("n of PLACE " + place, n[place], x -> x.multiple(p, 0));
            EDGES.nothing("k of PLACE " + place, k[place], x -> x.multiple(p, 1));
        }
        multipleTo300();
    }

    /** "The least n (to 300) .. of several k the least": 299, 300 and, no more taken, 301. */
    private static void multipleTo300() {
        long[][] due = {{68533, 299, 249}, {67461, 300, 291}, {68575, -2, -2}, {7, 2, 1}, {21, 4, 2}, {2147483657L, 31, 3}, {31, -2, -2}};
        for (long[] d : due) {
            EDGES.due("n of " + d[0], with(d[0]).multiple(0, 0), d[1]);
            EDGES.due("k of " + d[0], with(d[0]).multiple(0, 1), d[2]);
        }
        SlowTriSplits slow = new SlowTriSplits();
        for (long f = 0; f < 300; f++) {
            slow.put(0, f);
            EDGES.due("n of " + f, with(f).multiple(0, 0), slow.multiple(0, 0));
            EDGES.due("k of " + f, with(f).multiple(0, 1), slow.multiple(0, 1));
        }
    }

    // ---- promises 32, 35 and 36

    /** "TRI n, k (n 2 to 24) .. i NONE: how many; -2: there are not so many; NONE without these". */
    private static void trinomialEdges() {
        int[] wrong = {1, 0, -1, 25, 26, Integer.MIN_VALUE, Integer.MAX_VALUE};
        boolean[] both = {false, true};
        for (boolean primitive : both) {
            for (int n : wrong) {
                EDGES.nothing("how many of " + n, -1, x -> x.trinomial(n, primitive, -1));
                EDGES.nothing("the first of " + n, -1, x -> x.trinomial(n, primitive, 0));
                EDGES.nothing("far more of " + n, -1, x -> x.trinomial(n, primitive, 999));
            }
            EDGES.nothing("below NONE", -1, x -> x.trinomial(7, primitive, -2));
            EDGES.nothing("below NONE where there is none", -1, x -> x.trinomial(8, primitive, -2));
            EDGES.nothing("far below NONE", -1, x -> x.trinomial(7, primitive, Integer.MIN_VALUE));
            for (int n = 2; n <= 24; n++) {
                trinomialsOf(n, primitive);
            }
        }
    }

    private static void trinomialsOf(int n, boolean primitive) {
        String of = " of " + n + (primitive ? ", PRIMITIVE" : "");
        int i = 0;
        TriSplits x = new TriSplits();
        for (int k = 1; k < n; k++) {
            if (SlowTriSplits.sought(tri(n, k), primitive)) {
                EDGES.due("the " + i + of, x.trinomial(n, primitive, i), k);
                i++;
            }
        }
        EDGES.due("how many" + of, x.trinomial(n, primitive, -1), i);
        EDGES.due("one more" + of, x.trinomial(n, primitive, i), -2);
        EDGES.due("far more" + of, x.trinomial(n, primitive, Integer.MAX_VALUE), -2);
    }

    /** "The least DEGREE n (2 to 24) from one on ..; NONE for others": 24 itself has none, so -2 never comes. */
    private static void bareEdges() {
        int[] wrong = {1, 0, -1, 25, 26, Integer.MIN_VALUE, Integer.MAX_VALUE};
        for (int from : wrong) {
            EDGES.nothing("bare " + from, -1, x -> x.bare(from));
        }
        int[][] due = {{2, 8}, {7, 8}, {8, 8}, {9, 13}, {13, 13}, {14, 16}, {16, 16}, {17, 19}, {19, 19}, {20, 24}, {23, 24}, {24, 24}};
        for (int[] d : due) {
            EDGES.nothing("bare " + d[0], d[1], x -> x.bare(d[0]));
        }
    }

    /** "TRI n, k (n 2 to 24) .. by m (1 to 1000) .. -2: it is not IRREDUCIBLE; NONE without these". */
    private static void staysEdges() {
        int[][] wrong = {{1, 1, 1}, {25, 1, 1}, {25, 3, 3}, {0, 0, 1}, {2, 0, 1}, {2, 2, 1}, {7, -1, 1}, {24, 24, 1}, {24, 0, 1}, {7, 1, 0}, {7, 1, -1},
            {7, 1, 1001}, {8, 1, 0}, {8, 1, 1001}, {4, 2, 0}, {7, 1, Integer.MIN_VALUE}, {7, 1, Integer.MAX_VALUE}, {Integer.MAX_VALUE, 1, 1},
            {Integer.MIN_VALUE, 1, 1}, {7, Integer.MAX_VALUE, 1}, {7, Integer.MIN_VALUE, 1}};
        for (int[] w : wrong) {
            EDGES.nothing("stays " + w[0] + " " + w[1] + " " + w[2], -1, x -> x.stays(w[0], w[1], w[2]));
        }
        int[][] due = {{2, 1, 1, 1}, {2, 1, 3, 1}, {2, 1, 2, 0}, {2, 1, 999, 0}, {2, 1, 1000, 0}, {2, 1, 729, 1}, {3, 1, 7, 1}, {3, 2, 343, 1}, {8, 1, 1, -2},
            {8, 1, 1000, -2}, {4, 2, 1, -2}, {24, 1, 1, -2}, {24, 23, 7, -2}, {23, 5, 47, 1}, {23, 18, 1, 1}, {23, 18, 1000, 0}, {6, 3, 3, 1}, {6, 3, 9, 1},
            {6, 3, 7, 0}, {6, 3, 21, 0}, {6, 1, 7, 1}, {6, 1, 21, 1}, {6, 1, 9, 1}, {9, 1, 73, 1}, {9, 1, 7, 0}, {9, 1, 511, 0}, {4, 1, 15, 1}, {4, 1, 45, 1},
            {4, 1, 30, 0}, {4, 1, 25, 1}};
        for (int[] d : due) {
            EDGES.nothing("stays " + d[0] + " " + d[1] + " " + d[2], d[3], x -> x.stays(d[0], d[1], d[2]));
        }
        SlowTriSplits slow = new SlowTriSplits();
        for (int m = 1; m <= 1000; m++) {
            EDGES.due("stays 12 3 " + m, new TriSplits().stays(12, 3, m), slow.stays(12, 3, m));
        }
    }

    // ---- promises 33 and 34

    /** "of a DEGREE (1 to 20) .. NONE without these"; "of a DEGREE (1 to 31) .. NONE without these". */
    private static void degreesOfFamilies() {
        int[] wrong = {0, -1, -2, Integer.MIN_VALUE, Integer.MAX_VALUE, 21, 32};
        boolean[] both = {false, true};
        for (boolean primitive : both) {
            for (int degree : wrong) {
                EDGES.nothing("least " + degree, -1, x -> x.least(degree, primitive));
            }
            EDGES.nothing("many 0", -1, x -> x.many(0, primitive));
            EDGES.nothing("many -1", -1, x -> x.many(-1, primitive));
            EDGES.nothing("many 32", -1, x -> x.many(32, primitive));
            EDGES.nothing("many 33", -1, x -> x.many(33, primitive));
            EDGES.nothing("many far below", -1, x -> x.many(Integer.MIN_VALUE, primitive));
            EDGES.nothing("many far above", -1, x -> x.many(Integer.MAX_VALUE, primitive));
            EDGES.nothing("many 31", 69273666, x -> x.many(31, primitive));
            EDGES.nothing("least 20", 1048585, x -> x.least(20, primitive));
        }
        EDGES.nothing("least 1", 2, x -> x.least(1, false));
        EDGES.nothing("least 1, PRIMITIVE", 3, x -> x.least(1, true));
        EDGES.nothing("many 1", 2, x -> x.many(1, false));
        EDGES.nothing("many 1, PRIMITIVE", 1, x -> x.many(1, true));
    }

    /** "the least WEIGHT, of several the least BITS"; how many, by looking at all to DEGREE 15. */
    private static void allOfFamilies() {
        SlowTriSplits slow = new SlowTriSplits();
        for (int n = 1; n <= 15; n++) {
            int irreducible = 0;
            int primitive = 0;
            for (long f = 1L << n; f < 2L << n; f++) {
                irreducible += SlowTriSplits.irreducible(f) ? 1 : 0;
                primitive += SlowTriSplits.primitive(f) ? 1 : 0;
            }
            EDGES.due("many " + n, new TriSplits().many(n, false), irreducible);
            EDGES.due("many " + n + ", PRIMITIVE", new TriSplits().many(n, true), primitive);
            EDGES.due("least " + n, new TriSplits().least(n, false), slow.least(n, false));
            EDGES.due("least " + n + ", PRIMITIVE", new TriSplits().least(n, true), slow.least(n, true));
        }
    }

    // ---- promise 45

    private static void nextIs(long bits, long irreducible, long primitive) {
        EDGES.due("next of " + bits, with(bits).next(0, false), irreducible);
        EDGES.due("next of " + bits + ", PRIMITIVE", with(bits).next(0, true), primitive);
    }

    /** "whose BITS are above those of a PLACE's POLY (DEGREE to 20); -2: there is none such; NONE without that PLACE". */
    private static void nextEdges() {
        for (int none : NO_PLACES) {
            EDGES.nothing("next of PLACE " + none, -1, x -> x.next(none, false));
            EDGES.nothing("next PRIMITIVE of PLACE " + none, -1, x -> x.next(none, true));
        }
        nextIs(0, 2, 3);
        nextIs(1, 2, 3);
        nextIs(2, 3, 3);
        nextIs(3, 7, 7);
        nextIs(7, 11, 11);
        nextIs(25, 31, 37);
        nextIs(31, 37, 37);
        nextIs(1 << 20, 1048585, 1048585);
        nextIs((1 << 20) - 1, 1048585, 1048585);
        nextIs(2097152, -2, -2);
        nextIs(2097151, -2, -2);
        nextIs(1L << 31, -2, -2);
        nextIs(MOST, -2, -2);
        long last = 2097151;
        while (!SlowTriSplits.irreducible(last)) {
            last--;
        }
        long lastPrimitive = last;
        while (!SlowTriSplits.primitive(lastPrimitive)) {
            lastPrimitive--;
        }
        EDGES.due("the last one", with(last - 1).next(0, false), last);
        EDGES.due("behind the last one", with(last).next(0, false), -2);
        EDGES.due("the last PRIMITIVE one", with(lastPrimitive - 1).next(0, true), lastPrimitive);
        EDGES.due("behind the last PRIMITIVE one", with(lastPrimitive).next(0, true), -2);
        EDGES.nothing("next of PLACE 9", 25, x -> x.next(9, false));
        EDGES.nothing("next of PLACE 5", -2, x -> x.next(HIGHEST, false));
    }

    // ---- promises 37 to 41

    /** "NONE without these PLACES", ahead of all else. */
    private static void noPlacesOfFields() {
        for (int n : NO_PLACES) {
            for (int m = ZERO; m <= HIGHEST; m++) {
                int other = m;
                EDGES.nothing("minimal of " + n, -1, x -> x.minimal(n, other));
                EDGES.nothing("minimal by " + n, -1, x -> x.minimal(other, n));
                EDGES.nothing("trace of " + n, -1, x -> x.trace(n, other));
                EDGES.nothing("trace by " + n, -1, x -> x.trace(other, n));
                EDGES.nothing("conjugates of " + n, -1, x -> x.conjugates(n, other));
                EDGES.nothing("conjugates by " + n, -1, x -> x.conjugates(other, n));
                EDGES.nothing("log of " + n, -1, x -> x.log(n, ONE, other));
                EDGES.nothing("log by " + n, -1, x -> x.log(ONE, n, other));
                EDGES.nothing("log by modulus " + n, -1, x -> x.log(ONE, other, n));
                EDGES.nothing("roots of " + n, -1, x -> x.roots(n, other));
                EDGES.nothing("roots by " + n, -1, x -> x.roots(other, n));
            }
        }
    }

    /** "-2: the modulus is not IRREDUCIBLE, or the POLY is not of lesser DEGREE" (all of these, "likewise"). */
    private static void noElements() {
        // each POLY with each modulus: the same DEGREE is not lesser; 0, 1, x^2+x, (x+1)^31 and a square are no moduli
        for (int a = 0; a <= 9; a++) {
            for (int m = 0; m <= 9; m++) {
                boolean field = SlowTriSplits.irreducible(Whole.POLYS[m]);
                if (!field || SlowTriSplits.deg(Whole.POLYS[a]) >= SlowTriSplits.deg(Whole.POLYS[m])) {
                    noElement(a, m);
                }
            }
        }
    }

    private static void noElement(int a, int m) {
        String of = " of " + a + " by " + m;
        EDGES.nothing("minimal" + of, -2, x -> x.minimal(a, m));
        EDGES.nothing("trace" + of, -2, x -> x.trace(a, m));
        EDGES.nothing("conjugates" + of, -2, x -> x.conjugates(a, m));
        EDGES.nothing("log" + of, -2, x -> x.log(a, ONE, m));
        EDGES.nothing("log to the base" + of, -2, x -> x.log(ONE, a, m));
        EDGES.nothing("log of 0 to the base" + of + ": -2 ahead of -3", -2, x -> x.log(ZERO, a, m));
    }

    private static void element(long a, long modulus, long least, int trace, int conjugates) {
        TriSplits x = with(a, modulus);
        String of = " of " + a + " by " + modulus;
        EDGES.due("minimal" + of, x.minimal(0, 1), least);
        EDGES.due("trace" + of, x.trace(0, 1), trace);
        EDGES.due("conjugates" + of, x.conjugates(0, 1), conjugates);
    }

    /** FIELDS of DEGREE 1 and of DEGREE 31; 0 and 1 are elements of each. "(not 0)", "(n squarings; 0 or 1)". */
    private static void elements() {
        element(0, 2, 2, 0, 1);
        element(1, 2, 3, 1, 1);
        element(0, 3, 2, 0, 1);
        element(1, 3, 3, 1, 1);
        element(0, 7, 2, 0, 1);
        element(1, 7, 3, 0, 1);
        element(2, 7, 7, 1, 2);
        element(3, 7, 7, 1, 2);
        element(6, 19, 7, 0, 2);
        element(8, 19, 31, 1, 4);
        element(0, 2147483657L, 2, 0, 1);
        element(1, 2147483657L, 3, 1, 1);
        element(2, 2147483657L, 2147483657L, 0, 31);
        element(1L << 30, 2147483657L, highest(1L << 30).minimal(0, 1), highest(1L << 30).trace(0, 1), 31);
        element(MOST >> 1, 2147483657L, highest(MOST >> 1).minimal(0, 1), highest(MOST >> 1).trace(0, 1), 31);
        SlowTriSplits slow = new SlowTriSplits();
        long[] moduli = {11, 19, 31, 37, 67, 73, 87};
        for (long modulus : moduli) {
            slow.put(1, modulus);
            for (long a = 0; a < 1L << SlowTriSplits.deg(modulus); a++) {
                slow.put(0, a);
                element(a, modulus, slow.minimal(0, 1), slow.trace(0, 1), slow.conjugates(0, 1));
            }
        }
    }

    private static SlowTriSplits highest(long a) {
        SlowTriSplits slow = new SlowTriSplits();
        slow.put(0, a);
        slow.put(1, 2147483657L);
        return slow;
    }

    // ---- promise 40

    private static void logIs(long a, long base, long modulus, long due) {
        EDGES.due("log of " + a + " by " + base + " by " + modulus, with(a, base, modulus).log(0, 1, 2), due);
    }

    /** "(of DEGREE 16 at the most); -2 likewise (a greater modulus, too); -3: there is none"; "the least e (0 and more)". */
    private static void logEdges() {
        logIs(1, 0, 19, 0);
        logIs(0, 0, 19, 1);
        logIs(2, 0, 19, -3);
        logIs(0, 2, 19, -3);
        logIs(0, 1, 19, -3);
        logIs(1, 1, 19, 0);
        logIs(2, 1, 19, -3);
        logIs(1, 2, 19, 0);
        logIs(2, 2, 19, 1);
        logIs(9, 2, 19, 14);
        logIs(6, 7, 19, 2);
        logIs(2, 6, 19, -3);
        logIs(0, 0, 2, 1);
        logIs(1, 0, 2, 0);
        logIs(0, 1, 2, -3);
        logIs(1, 1, 3, 0);
        logIs(2, 1, 3, -2);
        logIs(SlowTriSplits.pow(2, 65534, 65581), 2, 65581, 65534);
        logIs(SlowTriSplits.pow(2, 65279, 65581), 2, 65581, 65279);
        logIs(SlowTriSplits.pow(2, 65280, 65581), 2, 65581, 65280);
        logIs(SlowTriSplits.pow(2, 255, 65581), 2, 65581, 255);
        logIs(SlowTriSplits.pow(2, 256, 65581), 2, 65581, 256);
        logIs(0, 2, 65581, -3);
        logIs(1, 2, 131081, -2);
        logIs(1, 1, 131081, -2);
        logIs(0, 2, 131081, -2);
        logIs(1, 2, 2147483657L, -2);
        logIs(1, 2, 65537, -2);
        EDGES.nothing("log in a FIELD", 3, x -> x.log(0, 2, 1) - 4);
        EDGES.nothing("log by a greater modulus", -2, x -> x.log(ONE, 2, HIGHEST));
        logsOfAll();
    }

    private static void logsOfAll() {
        SlowTriSplits slow = new SlowTriSplits();
        long[] moduli = {2, 3, 7, 11, 19, 31, 73};
        for (long modulus : moduli) {
            slow.put(2, modulus);
            long end = 1L << SlowTriSplits.deg(modulus);
            for (long a = 0; a < end; a++) {
                for (long base = 0; base < end; base++) {
                    slow.put(0, a);
                    slow.put(1, base);
                    logIs(a, base, modulus, slow.log(0, 1, 2));
                }
            }
        }
    }

    // ---- promise 41

    private static void rootsAre(long a, long modulus, long due) {
        EDGES.due("roots of " + a + " by " + modulus, with(a, modulus).roots(0, 1), due);
    }

    /** "(of DEGREE 12 at the most) .. -2: the modulus is no such one". */
    private static void rootsEdges() {
        rootsAre(0, 4179, 4096);
        rootsAre(1, 4179, 0);
        rootsAre(2, 4179, 1);
        rootsAre(3, 4179, 1);
        rootsAre(4179, 4179, 12);
        rootsAre(0, 8219, -2);
        rootsAre(1, 8219, -2);
        rootsAre(0, 4097, -2);
        rootsAre(0, 0, -2);
        rootsAre(0, 1, -2);
        rootsAre(0, 4, -2);
        rootsAre(0, 6, -2);
        rootsAre(0, 2, 2);
        rootsAre(0, 3, 2);
        rootsAre(1, 2, 0);
        rootsAre(2, 2, 1);
        rootsAre(3, 2, 1);
        rootsAre(6, 2, 2);
        rootsAre(7, 2, 0);
        rootsAre(7, 7, 2);
        rootsAre(21, 7, 2);
        rootsAre(18, 7, 4);
        rootsAre(MOST, 4179, 1);
        rootsAre(1L << 31, 4179, 1);
        rootsAre(2147483649L, 37, 31);
        rootsAre(2147483650L, 37, 2);
        rootsAre(2147483657L, 4179, 0);
        EDGES.nothing("roots of 0 by x^3+x+1", 8, x -> x.roots(ZERO, 0));
        EDGES.nothing("roots of a higher DEGREE", 1, x -> x.roots(ALL_BITS, 0));
        EDGES.nothing("roots by the highest", -2, x -> x.roots(0, HIGHEST));
        EDGES.nothing("roots by 0", -2, x -> x.roots(0, ZERO));
        EDGES.nothing("roots by 1", -2, x -> x.roots(0, ONE));
        EDGES.nothing("roots by no IRREDUCIBLE one", -2, x -> x.roots(0, 6));
        SlowTriSplits slow = new SlowTriSplits();
        long[] moduli = {2, 3, 7, 11, 13, 31};
        for (long modulus : moduli) {
            slow.put(1, modulus);
            for (long a = 0; a < 128; a++) {
                slow.put(0, a);
                rootsAre(a, modulus, slow.roots(0, 1));
            }
        }
    }

    public static void main(String[] args) {
        swanWithout();
        swanCases();
        swanOfAll();
        multipleEdges();
        trinomialEdges();
        bareEdges();
        staysEdges();
        degreesOfFamilies();
        allOfFamilies();
        nextEdges();
        noPlacesOfFields();
        noElements();
        elements();
        logEdges();
        rootsEdges();
        EDGES.close();
    }
}
