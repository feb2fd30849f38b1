import java.util.Collections;
import java.util.List;
import java.util.TreeSet;

/**
 * The edges that promises 23 to 27, 43, 44 and 46 to 49 name: a PLACE's POLY, its FACTORS, its letters.
 * The PLACES are those of Whole.POLYS: 0 x^3+x+1, 1 x^4+x+1, 2 x, 3 0, 4 1, 5 x^31+x^3+1, 6 x^2+x,
 * 7 (x+1)^31, 8 x+1, 9 (x^2+x+1)^2.
 */
public final class EdgesSplitTest {
    private static final Edges EDGES = new Edges("EdgesSplitTest");
    private static final int[] NO_PLACES = {-1, 10, -2, 11, Integer.MIN_VALUE, Integer.MAX_VALUE};
    private static final long MOST = 4294967295L;
    private static final int ZERO = 3;
    private static final int ONE = 4;
    private static final int HIGHEST = 5;
    private static final int ALL_BITS = 7;

    private static TriSplits with(long... polys) {
        TriSplits x = new TriSplits();
        for (int i = 0; i < polys.length; i++) {
            x.put(i, polys[i]);
        }
        return x;
    }

    // ---- promise 23, and all that asks of a PLACE

    /** "NONE without it": "A PLACE that is none: NONE", -5 where the promise says so. */
    private static void noPlaces() {
        for (int n : NO_PLACES) {
            EDGES.nothing("bits of " + n, -1, x -> x.bits(n));
            EDGES.nothing("factor of " + n, -1, x -> x.factor(n, 0));
            EDGES.nothing("factor of " + n + ", too many", -1, x -> x.factor(n, 99));
            EDGES.nothing("ofDegree of " + n, -1, x -> x.ofDegree(n, 1));
            EDGES.nothing("order of " + n, -1, x -> x.order(n));
            EDGES.nothing("letter of " + n, -1, x -> x.letter(n, 0));
            EDGES.nothing("letter of " + n + ", too many", -1, x -> x.letter(n, 999));
            EDGES.nothing("letters of " + n, -1, x -> x.letter(n, -1));
            EDGES.nothing("spell of " + n, -1, x -> x.spell(n, 0));
            EDGES.nothing("spell of " + n + ", too many", -1, x -> x.spell(n, 9999));
            EDGES.nothing("spelt of " + n, -1, x -> x.spell(n, -1));
            EDGES.nothing("divisor of " + n, -1, x -> x.divisor(n, 0));
            EDGES.nothing("divisor of " + n + ", too many", -1, x -> x.divisor(n, 9999));
            EDGES.nothing("divisors of " + n, -1, x -> x.divisor(n, -1));
            EDGES.nothing("couples of " + n, -1, x -> x.couples(n));
            EDGES.nothing("akin " + n, -1, x -> x.akin(n, 0));
            EDGES.nothing("akin to " + n, -1, x -> x.akin(0, n));
            EDGES.nothing("akin, both " + n, -1, x -> x.akin(n, n));
            for (int what = -1; what <= 9; what++) {
                int w = what;
                EDGES.nothing("poly " + what + " of " + n, -5, x -> x.poly(n, w));
            }
            for (int what = -1; what <= 2; what++) {
                int w = what;
                EDGES.nothing("mirror " + what + " of " + n, -5, x -> x.mirror(n, w));
            }
        }
    }

    private static void allPlaces() {
        for (int place = 0; place <= 9; place++) {
            int p = place;
            EDGES.nothing("bits of " + place, Whole.POLYS[place], x -> x.bits(p));
            EDGES.nothing("DEGREE of " + place, SlowTriSplits.deg(Whole.POLYS[place]), x -> x.poly(p, 0));
        }
    }

    // ---- promise 24

    private static void told(long bits, int... due) {
        TriSplits x = Whole.filled(bits);
        for (int what = 0; what <= 8; what++) {
            EDGES.due("poly " + what + " of " + bits, x.poly(0, what), due[what]);
        }
    }

    /** "DEGREE (-1 of 0, too) .. SQUAREFREE (0 and 1: 0) .. (0 of 0 and 1) .. (0 without)". */
    private static void polyOfZeroAndOne() {
        told(0, -1, 0, 0, 0, 0, 0, 0, 0, 0);
        told(1, 0, 1, 1, 0, 0, 0, 0, 0, 0);
        for (int what = 0; what <= 8; what++) {
            int w = what;
            EDGES.nothing("poly " + what + " of 0", what == 0 ? -1 : 0, x -> x.poly(ZERO, w));
            EDGES.nothing("poly " + what + " of 1", what == 1 || what == 2 ? 1 : 0, x -> x.poly(ONE, w));
        }
    }

    /** "-5 without these." */
    private static void polyWhat() {
        int[] wrong = {-1, 9, -5, 10, Integer.MIN_VALUE, Integer.MAX_VALUE};
        for (int what : wrong) {
            for (int place = 0; place <= 9; place++) {
                int p = place;
                EDGES.nothing("poly " + what + " of " + place, -5, x -> x.poly(p, what));
            }
        }
    }

    /** Least and greatest DEGREES; "PRIMITIVE: .. (so x and 1 is)", and x, with no ORDER, is not. */
    private static void polyEdges() {
        told(2, 1, 1, 1, 1, 1, 0, 1, 1, 1);
        told(3, 1, 2, 0, 1, 1, 1, 1, 1, 1);
        told(4, 2, 1, 1, 0, 0, 0, 2, 1, 1);
        told(5, 2, 2, 0, 0, 0, 0, 2, 1, 1);
        told(6, 2, 2, 0, 1, 0, 0, 2, 2, 1);
        told(7, 2, 3, 1, 1, 1, 1, 1, 1, 2);
        told(21, 4, 3, 1, 0, 0, 0, 2, 1, 2);
        told(31, 4, 5, 1, 1, 1, 0, 1, 1, 4);
        told(1L << 31, 31, 1, 1, 0, 0, 0, 31, 1, 1);
        told(MOST, 31, 32, 0, 0, 0, 0, 31, 1, 1);
        told(MOST - 1, 31, 31, 1, 1, 0, 0, 7, 7, 5);
        told(2147483657L, 31, 3, 1, 1, 1, 1, 1, 1, 31);
        told(2147483649L, 31, 2, 0, 1, 0, 0, 7, 7, 5);
        told(1L << 30, 30, 1, 1, 0, 0, 0, 30, 1, 1);
        told(1L << 30 | 3, 30, 3, 1, 1, 1, 0, 1, 1, 30);
    }

    // ---- promises 25 and 26

    /** "the k-th FACTOR .. -2: there are not so many; NONE without these": k from 0 on. */
    private static void factorEdges() {
        int[] below = {-1, -2, Integer.MIN_VALUE};
        for (int k : below) {
            for (int place = 0; place <= 9; place++) {
                int p = place;
                EDGES.nothing("factor " + k + " of " + place, -1, x -> x.factor(p, k));
            }
        }
        for (int place = 0; place <= 9; place++) {
            int p = place;
            List<Long> due = SlowTriSplits.factors(Whole.POLYS[place]);
            for (int k = 0; k < due.size(); k++) {
                int which = k;
                EDGES.nothing("factor " + k + " of " + place, due.get(k), x -> x.factor(p, which));
            }
            EDGES.nothing("one more of " + place, -2, x -> x.factor(p, due.size()));
            EDGES.nothing("far more of " + place, -2, x -> x.factor(p, Integer.MAX_VALUE));
        }
        TriSplits x = with(1L << 31);
        EDGES.due("the last x of x^31", x.factor(0, 30), 2);
        EDGES.due("one more", x.factor(0, 31), -2);
    }

    /** "How many FACTORS of a DEGREE (1 to 31)"; "NONE without these". */
    private static void ofDegreeEdges() {
        int[] wrong = {0, 32, -1, 33, Integer.MIN_VALUE, Integer.MAX_VALUE};
        for (int degree : wrong) {
            for (int place = 0; place <= 9; place++) {
                int p = place;
                EDGES.nothing("ofDegree " + degree + " of " + place, -1, x -> x.ofDegree(p, degree));
            }
        }
        for (int degree = 1; degree <= 31; degree++) {
            int d = degree;
            EDGES.nothing("ofDegree " + degree + " of 0", 0, x -> x.ofDegree(ZERO, d));
            EDGES.nothing("ofDegree " + degree + " of 1", 0, x -> x.ofDegree(ONE, d));
            EDGES.nothing("ofDegree " + degree + " of (x+1)^31", degree == 1 ? 31 : 0, x -> x.ofDegree(ALL_BITS, d));
            EDGES.nothing("ofDegree " + degree + " of the highest", degree == 31 ? 1 : 0, x -> x.ofDegree(HIGHEST, d));
            EDGES.nothing("ofDegree " + degree + " of a square", degree == 2 ? 2 : 0, x -> x.ofDegree(9, d));
        }
    }

    // ---- promise 27

    /** "ORDER; -2: there is none": of 0, 1, and of those without 1. "(DEGREE 1 and more)". */
    private static void orderEdges() {
        long[] due = {7, 15, -2, -2, -2, 2147483647L, -2, 32, 1, 6};
        for (int place = 0; place <= 9; place++) {
            int p = place;
            EDGES.nothing("order of " + place, due[place], x -> x.order(p));
        }
        long[][] more = {{1L << 31, -2}, {MOST - 1, -2}, {4, -2}, {5, 2}, {15, 4}, {17, 4}, {51, 8}, {9, 3}, {2147483649L, 31}, {1L << 30 | 1, 30},
            {1L << 30 | 3, 10845877}};
        for (long[] m : more) {
            EDGES.due("order of " + m[0], with(m[0]).order(0), m[1]);
            EDGES.due("order of " + m[0] + ", the slow way", SlowTriSplits.orderOf(m[0]), m[1]);
        }
        // (x+1) to the t: the least power of two from t on
        long power = 1;
        for (int t = 1; t <= 31; t++) {
            power = SlowTriSplits.mul(power, 3);
            long order = t == 1 ? 1 : 2L * Integer.highestOneBit(t - 1);
            EDGES.due("order of (x+1)^" + t, with(power).order(0), order);
        }
    }

    // ---- promises 43 and 44

    private static void letters(long bits, String poly, String spelt) {
        TriSplits x = with(bits);
        EDGES.due("letters of " + bits, x.letter(0, -1), poly.length());
        EDGES.due("spelt of " + bits, x.spell(0, -1), spelt.length());
        for (int k = 0; k < poly.length(); k++) {
            EDGES.due("letter " + k + " of " + bits, x.letter(0, k), poly.charAt(k));
        }
        for (int k = 0; k < spelt.length(); k++) {
            EDGES.due("spell " + k + " of " + bits, x.spell(0, k), spelt.charAt(k));
        }
        EDGES.due("letter behind of " + bits, x.letter(0, poly.length()), -2);
        EDGES.due("spell behind of " + bits, x.spell(0, spelt.length()), -2);
        EDGES.due("letter far behind of " + bits, x.letter(0, Integer.MAX_VALUE), -2);
        EDGES.due("spell far behind of " + bits, x.spell(0, Integer.MAX_VALUE), -2);
    }

    /** "0 of 0", "0 and 1 as such", "^ and how often if more than once". */
    private static void letterEdges() {
        letters(0, "0", "0");
        letters(1, "1", "1");
        letters(2, "x", "(x)");
        letters(3, "x+1", "(x+1)");
        letters(4, "x^2", "(x)^2");
        letters(8, "x^3", "(x)^3");
        letters(1 << 9, "x^9", "(x)^9");
        letters(1 << 10, "x^10", "(x)^10");
        letters(1L << 31, "x^31", "(x)^31");
        letters(6, "x^2+x", "(x)(x+1)");
        letters(21, "x^4+x^2+1", "(x^2+x+1)^2");
        letters(0b11011, "x^4+x^3+x+1", "(x+1)^2(x^2+x+1)");
        letters(2147483657L, "x^31+x^3+1", "(x^31+x^3+1)");
        letters(143, "x^7+x^3+x^2+x+1", "(x^7+x^3+x^2+x+1)");
    }

    /** "-2: it has not so many; NONE for k below NONE." */
    private static void lettersBelowNone() {
        int[] below = {-2, -3, Integer.MIN_VALUE};
        for (int k : below) {
            for (int place = 0; place <= 9; place++) {
                int p = place;
                EDGES.nothing("letter " + k + " of " + place, -1, x -> x.letter(p, k));
                EDGES.nothing("spell " + k + " of " + place, -1, x -> x.spell(p, k));
                EDGES.nothing("divisor " + k + " of " + place, -1, x -> x.divisor(p, k));
            }
        }
        EDGES.nothing("letter far behind", -2, x -> x.letter(0, 400));
        EDGES.nothing("letters", 7, x -> x.letter(0, -1));
        EDGES.nothing("spelt", 11, x -> x.spell(9, -1));
    }

    /** The longest of all: no byte is lost. */
    private static void longestLetters() {
        StringBuilder text = new StringBuilder();
        for (int n = 31; n > 1; n--) {
            text.append("x^").append(n).append('+');
        }
        letters(MOST, text + "x+1", "(x+1)^31");
        long[] polys = {4290772859L, 3220176895L, MOST - 1, 0xDFFFFFFFL, 0xFFFFFFFDL, 0xBFFFFFFFL};
        for (long f : polys) {
            List<Long> factors = SlowTriSplits.factors(f);
            StringBuilder due = new StringBuilder();
            for (long g : new TreeSet<>(factors)) {
                int often = Collections.frequency(factors, g);
                due.append('(').append(Check.letters(with(g), 0, false)).append(')').append(often > 1 ? "^" + often : "");
            }
            TriSplits x = with(f);
            EDGES.due("spelt " + f, Check.letters(x, 0, true).equals(due.toString()) ? 1 : 0, 1);
            EDGES.due("spell behind of " + f, x.spell(0, due.length()), -2);
        }
    }

    // ---- promise 46

    /** "k NONE: how many (of 0: none); -2: there are not so many". "(rising; 1 and the POLY, too)". */
    private static void divisorEdges() {
        EDGES.nothing("divisors of 0", 0, x -> x.divisor(ZERO, -1));
        EDGES.nothing("divisor 0 of 0", -2, x -> x.divisor(ZERO, 0));
        EDGES.nothing("divisors of 1", 1, x -> x.divisor(ONE, -1));
        EDGES.nothing("divisor 0 of 1", 1, x -> x.divisor(ONE, 0));
        EDGES.nothing("divisor 1 of 1", -2, x -> x.divisor(ONE, 1));
        EDGES.nothing("divisors of x", 2, x -> x.divisor(2, -1));
        EDGES.nothing("divisors of the highest", 2, x -> x.divisor(HIGHEST, -1));
        EDGES.nothing("divisor 1 of the highest", 2147483657L, x -> x.divisor(HIGHEST, 1));
        EDGES.nothing("divisors of (x+1)^31", 32, x -> x.divisor(ALL_BITS, -1));
        long power = 1;
        for (int k = 0; k <= 31; k++) {
            int which = k;
            long due = power;
            EDGES.nothing("divisor " + k + " of (x+1)^31", due, x -> x.divisor(ALL_BITS, which));
            power = SlowTriSplits.mul(power, 3);
        }
        EDGES.nothing("divisor 32 of (x+1)^31", -2, x -> x.divisor(ALL_BITS, 32));
        EDGES.nothing("far behind", -2, x -> x.divisor(ALL_BITS, Integer.MAX_VALUE));
    }

    // ---- promises 47 to 49

    /** "(orders aside)"; "(of 0: 0)". */
    private static void couplesEdges() {
        long[] due = {1, 1, 1, 0, 1, 1, 2, 1, 1, 1};
        for (int place = 0; place <= 9; place++) {
            int p = place;
            EDGES.nothing("couples of " + place, due[place], x -> x.couples(p));
        }
        EDGES.due("couples of x (x+1) (x^2+x+1)", with(SlowTriSplits.mul(6, 7)).couples(0), 4);
        EDGES.due("couples of x^2 (x+1)^3", with(SlowTriSplits.mul(4, 15)).couples(0), 2);
        EDGES.due("couples of x^31+1", with(2147483649L).couples(0), 64);
        // x (x+1) (x^2+x+1), both of DEGREE 3, all of DEGREE 4, one of DEGREE 5: the most unlike ones
        long most = 1;
        long[] unlike = {2, 3, 7, 11, 13, 19, 25, 31, 37};
        for (long f : unlike) {
            most = SlowTriSplits.mul(most, f);
        }
        EDGES.due("couples of the most unlike ones", with(most).couples(0), 256);
    }

    /** "whether rev of it is it (1, 0), 1: the DEGREE of what both have in common; -5 without these". */
    private static void mirrorEdges() {
        int[] same = {0, 0, 0, 1, 1, 0, 0, 1, 1, 1};
        int[] joint = {0, 0, 0, -1, 0, 0, 1, 31, 1, 4};
        int[] wrong = {-1, 2, -5, 3, Integer.MIN_VALUE, Integer.MAX_VALUE};
        for (int place = 0; place <= 9; place++) {
            int p = place;
            EDGES.nothing("mirror 0 of " + place, same[place], x -> x.mirror(p, 0));
            EDGES.nothing("mirror 1 of " + place, joint[place], x -> x.mirror(p, 1));
            for (int what : wrong) {
                EDGES.nothing("mirror " + what + " of " + place, -5, x -> x.mirror(p, what));
            }
        }
        EDGES.due("x^31 is not its rev", with(1L << 31).mirror(0, 0), 0);
        EDGES.due("x^31 and 1", with(1L << 31).mirror(0, 1), 0);
        EDGES.due("x^31+1 is its rev", with(2147483649L).mirror(0, 0), 1);
        EDGES.due("x^31+1", with(2147483649L).mirror(0, 1), 31);
        EDGES.due("tri 3 1 times tri 3 2", with(SlowTriSplits.mul(11, 13)).mirror(0, 0), 1);
    }

    /** "(1, 0; 0 and 1 have none)". */
    private static void akinEdges() {
        int[] alone = {0, 1, 2, 5, 6, 7, 8, 9};
        EDGES.nothing("0 and 1", 1, x -> x.akin(ZERO, ONE));
        EDGES.nothing("1 and 0", 1, x -> x.akin(ONE, ZERO));
        EDGES.nothing("0 and itself", 1, x -> x.akin(ZERO, ZERO));
        EDGES.nothing("1 and itself", 1, x -> x.akin(ONE, ONE));
        for (int place : alone) {
            EDGES.nothing("0 and " + place, 0, x -> x.akin(ZERO, place));
            EDGES.nothing(place + " and 1", 0, x -> x.akin(place, ONE));
            EDGES.nothing(place + " and itself", 1, x -> x.akin(place, place));
        }
        EDGES.nothing("x+1 and its 31st power", 1, x -> x.akin(8, ALL_BITS));
        EDGES.nothing("x^2+x and x+1", 0, x -> x.akin(6, 8));
        EDGES.nothing("x and x^2+x", 0, x -> x.akin(2, 6));
        EDGES.nothing("x and x+1", 0, x -> x.akin(2, 8));
        TriSplits x = with(1L << 31, 2, SlowTriSplits.mul(4, 3), SlowTriSplits.mul(2, 5), 11, 13);
        EDGES.due("x^31 and x", x.akin(0, 1), 1);
        EDGES.due("x^2 (x+1) and x (x+1)^2", x.akin(2, 3), 1);
        EDGES.due("two of one DEGREE", x.akin(4, 5), 0);
    }

    public static void main(String[] args) {
        noPlaces();
        allPlaces();
        polyOfZeroAndOne();
        polyWhat();
        polyEdges();
        factorEdges();
        ofDegreeEdges();
        orderEdges();
        letterEdges();
        lettersBelowNone();
        longestLetters();
        divisorEdges();
        couplesEdges();
        mirrorEdges();
        akinEdges();
        EDGES.close();
    }
}
