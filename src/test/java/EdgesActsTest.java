/**
 * The edges that promises 6 to 16 name: ACTS on PLACES. The PLACES are those of Whole.POLYS:
 * 0 x^3+x+1, 1 x^4+x+1, 2 x, 3 0, 4 1, 5 x^31+x^3+1, 6 x^2+x, 7 (x+1)^31, 8 x+1, 9 (x^2+x+1)^2.
 */
public final class EdgesActsTest {
    private static final Edges EDGES = new Edges("EdgesActsTest");
    private static final int[] NO_PLACES = {-1, 10, -2, 11, Integer.MIN_VALUE, Integer.MAX_VALUE};
    private static final int WITHOUT = -5;
    private static final long MOST = 4294967295L;
    private static final int ZERO = 3;
    private static final int ONE = 4;
    private static final int HIGHEST = 5;
    private static final int ALL_BITS = 7;

    // ---- promise 6

    /** "A PLACE gets a POLY by its BITS (0 to 4294967295): its DEGREE". */
    private static void putTakes() {
        for (int to = 0; to <= 9; to++) {
            int place = to;
            EDGES.puts("put to " + to, 1, to, 3, x -> x.put(place, 3));
        }
        EDGES.puts("put 0", -1, 0, 0, x -> x.put(0, 0));
        EDGES.puts("put 1", 0, 0, 1, x -> x.put(0, 1));
        EDGES.puts("put most", 31, 9, MOST, x -> x.put(9, MOST));
        EDGES.puts("put what is there", 3, 0, 11, x -> x.put(0, 11));
        for (int n = 0; n <= 31; n++) {
            long power = 1L << n;
            EDGES.puts("put x^" + n, n, 2, power, x -> x.put(2, power));
            EDGES.puts("put below x^" + n, n - 1, 2, power - 1, x -> x.put(2, power - 1));
        }
    }

    /** "-5, and nothing happens, without these." */
    private static void putWithout() {
        long[] wrong = {-1, MOST + 1, MOST + 2, 1L << 33, Long.MIN_VALUE, Long.MAX_VALUE, -MOST, 1L << 63 | 1};
        for (long bits : wrong) {
            EDGES.nothing("put " + bits, WITHOUT, x -> x.put(0, bits));
        }
        for (int none : NO_PLACES) {
            EDGES.nothing("put to " + none, WITHOUT, x -> x.put(none, 3));
            EDGES.nothing("put wrong BITS to " + none, WITHOUT, x -> x.put(none, -1));
        }
    }

    // ---- "-5 without these (as below)"

    /** Each ACT, each of its PLACES in turn one that is none: nothing happens. */
    private static void noPlaces() {
        for (int n : NO_PLACES) {
            EDGES.nothing("add " + n, WITHOUT, x -> x.add(n, 1, 2));
            EDGES.nothing("add with " + n, WITHOUT, x -> x.add(0, n, 2));
            EDGES.nothing("add to " + n, WITHOUT, x -> x.add(0, 1, n));
            EDGES.nothing("multiply " + n, WITHOUT, x -> x.multiply(n, 1, 2));
            EDGES.nothing("multiply by " + n, WITHOUT, x -> x.multiply(0, n, 2));
            EDGES.nothing("multiply to " + n, WITHOUT, x -> x.multiply(0, 1, n));
            EDGES.nothing("divide " + n, WITHOUT, x -> x.divide(n, 1, 2));
            EDGES.nothing("divide by " + n, WITHOUT, x -> x.divide(0, n, 2));
            EDGES.nothing("divide to " + n, WITHOUT, x -> x.divide(0, 1, n));
            EDGES.nothing("rest of " + n, WITHOUT, x -> x.rest(n, 1, 2));
            EDGES.nothing("rest by " + n, WITHOUT, x -> x.rest(0, n, 2));
            EDGES.nothing("rest to " + n, WITHOUT, x -> x.rest(0, 1, n));
            EDGES.nothing("common of " + n, WITHOUT, x -> x.common(n, 1, 2));
            EDGES.nothing("common with " + n, WITHOUT, x -> x.common(0, n, 2));
            EDGES.nothing("common to " + n, WITHOUT, x -> x.common(0, 1, n));
            EDGES.nothing("moved " + n, WITHOUT, x -> x.moved(n, 2));
            EDGES.nothing("moved to " + n, WITHOUT, x -> x.moved(0, n));
            noPlacesByModulus(n);
        }
    }

    private static void noPlacesByModulus(int n) {
        EDGES.nothing("power of " + n, WITHOUT, x -> x.power(n, 2, 1, 2));
        EDGES.nothing("power by " + n, WITHOUT, x -> x.power(0, 2, n, 2));
        EDGES.nothing("power to " + n, WITHOUT, x -> x.power(0, 2, 1, n));
        EDGES.nothing("inside of " + n, WITHOUT, x -> x.inside(n, 0, 1, 2));
        EDGES.nothing("inside with " + n, WITHOUT, x -> x.inside(0, n, 1, 2));
        EDGES.nothing("inside by " + n, WITHOUT, x -> x.inside(0, 1, n, 2));
        EDGES.nothing("inside to " + n, WITHOUT, x -> x.inside(0, 2, 1, n));
        EDGES.nothing("inverse of " + n, WITHOUT, x -> x.inverse(n, 1, 2));
        EDGES.nothing("inverse by " + n, WITHOUT, x -> x.inverse(0, n, 2));
        EDGES.nothing("inverse to " + n, WITHOUT, x -> x.inverse(0, 1, n));
        EDGES.nothing("rise of " + n, WITHOUT, x -> x.rise(n, 2, 2));
        EDGES.nothing("rise to " + n, WITHOUT, x -> x.rise(0, 2, n));
    }

    /** PLACES 0 and 9 are PLACES in each position, and may be one and the same. */
    private static void firstAndLastPlace() {
        int[] ends = {0, 9};
        for (int a : ends) {
            for (int b : ends) {
                for (int to : ends) {
                    actsOn(a, b, to);
                }
            }
        }
    }

    private static void actsOn(int a, int b, int to) {
        long one = Whole.POLYS[a];
        long two = Whole.POLYS[b];
        String of = " " + a + " " + b + " " + to;
        long product = SlowTriSplits.mul(one, two);
        long inside = a == 0 ? two ^ SlowTriSplits.pow(two, 3, 19) ^ 1 : SlowTriSplits.pow(two, 4, 19) ^ SlowTriSplits.pow(two, 2, 19) ^ 1;
        puts("add" + of, to, one ^ two, x -> x.add(a, b, to));
        puts("multiply" + of, to, product, x -> x.multiply(a, b, to));
        puts("divide" + of, to, SlowTriSplits.divmod(one, two)[0], x -> x.divide(a, b, to));
        puts("rest" + of, to, SlowTriSplits.mod(one, two), x -> x.rest(a, b, to));
        puts("common" + of, to, SlowTriSplits.gcd(one, two), x -> x.common(a, b, to));
        puts("power" + of, to, SlowTriSplits.pow(one, 5, two), x -> x.power(a, 5, b, to));
        puts("inside" + of, to, SlowTriSplits.mod(inside, 19), x -> x.inside(a, b, 1, to));
        puts("moved" + of, to, a == 0 ? 13 : 21, x -> x.moved(a, to));
        puts("inverse" + of, to, SlowTriSplits.pow(one, 14, 19), x -> x.inverse(a, 1, to));
        puts("rise" + of, to, a == 0 ? 69 : 273, x -> x.rise(a, 2, to));
    }

    private static void puts(String call, int to, long bits, Whole.Call act) {
        EDGES.puts(call, SlowTriSplits.deg(bits), to, bits, act);
    }

    // ---- promises 7 and 8

    private static void sums() {
        puts("a sum that is 0", 8, 0, x -> x.add(7, 7, 8));
        puts("0 and 0", 8, 0, x -> x.add(ZERO, ZERO, 8));
        puts("a sum of DEGREE 31", 0, MOST ^ 11, x -> x.add(0, ALL_BITS, 0));
        puts("a sum of two of DEGREE 31", 0, MOST ^ 2147483657L, x -> x.add(ALL_BITS, HIGHEST, 0));
    }

    /** "-2, and nothing happens: that would be above 31." */
    private static void productsTo31() {
        for (int n = 0; n <= 31; n++) {
            int a = n;
            TriSplits x = new TriSplits();
            x.put(0, 1L << a);
            x.put(1, 1L << (31 - a));
            x.put(2, a == 0 ? 1 : 2L << (31 - a));
            EDGES.due("x^31 from x^" + a, x.multiply(0, 1, 3), 31);
            EDGES.due("its BITS", x.bits(3), 1L << 31);
            EDGES.due("one ACT", x.count(1), 4);
            if (a > 0) {
                EDGES.due("x^32 from x^" + a, x.multiply(0, 2, 3), -2);
                EDGES.due("x^32 the other way", x.multiply(2, 0, 3), -2);
                EDGES.due("no ACT", x.count(1), 4);
                EDGES.due("nothing happens", x.bits(3), 1L << 31);
            }
        }
        puts("DEGREE 31 by 1", 0, 2147483657L, x -> x.multiply(HIGHEST, ONE, 0));
        puts("DEGREE 31 by 0", 0, 0, x -> x.multiply(HIGHEST, ZERO, 0));
        puts("0 by DEGREE 31", 0, 0, x -> x.multiply(ZERO, ALL_BITS, 0));
        EDGES.nothing("DEGREE 31 by x", -2, x -> x.multiply(HIGHEST, 2, 0));
        EDGES.nothing("DEGREE 31 by x+1", -2, x -> x.multiply(ALL_BITS, 8, ALL_BITS));
        EDGES.nothing("DEGREE 31 by itself", -2, x -> x.multiply(HIGHEST, HIGHEST, HIGHEST));
        EDGES.nothing("DEGREE 62, all BITS", -2, x -> x.multiply(ALL_BITS, ALL_BITS, 0));
    }

    // ---- promises 9 to 11

    /** "-2, and nothing happens: the second is 0." "(the rest does not matter)" */
    private static void quotientsAndRests() {
        for (int a = 0; a <= 9; a++) {
            int place = a;
            EDGES.nothing("divide " + a + " by 0", -2, x -> x.divide(place, ZERO, 0));
            EDGES.nothing("rest of " + a + " by 0", -2, x -> x.rest(place, ZERO, 0));
            puts("divide " + a + " by 1", 0, Whole.POLYS[a], x -> x.divide(place, ONE, 0));
            puts("rest of " + a + " by 1", 0, 0, x -> x.rest(place, ONE, 0));
        }
        puts("0 by one", 0, 0, x -> x.divide(ZERO, HIGHEST, 0));
        puts("rest of 0", 0, 0, x -> x.rest(ZERO, HIGHEST, 0));
        puts("a lesser DEGREE", 9, 0, x -> x.divide(0, 1, 9));
        puts("rest of a lesser DEGREE", 9, 11, x -> x.rest(0, 1, 9));
        puts("the same DEGREE", 9, 1, x -> x.divide(HIGHEST, ALL_BITS, 9));
        puts("rest by the same DEGREE", 9, 2147483657L ^ MOST, x -> x.rest(HIGHEST, ALL_BITS, 9));
        puts("by itself", 9, 1, x -> x.divide(9, 9, 9));
        puts("rest by itself", 9, 0, x -> x.rest(9, 9, 9));
        puts("with a rest", 9, 2, x -> x.divide(1, 0, 9));
        puts("the rest", 9, 5, x -> x.rest(1, 0, 9));
    }

    /** "The greatest common divisor (0 of two that are 0)". */
    private static void commonOnes() {
        puts("0 and 0", 0, 0, x -> x.common(ZERO, ZERO, 0));
        puts("0 and DEGREE 31", 0, MOST, x -> x.common(ZERO, ALL_BITS, 0));
        puts("DEGREE 31 and 0", 0, MOST, x -> x.common(ALL_BITS, ZERO, 0));
        puts("0 and 1", 0, 1, x -> x.common(ZERO, ONE, 0));
        puts("1 and DEGREE 31", 0, 1, x -> x.common(ONE, HIGHEST, 0));
        puts("one of DEGREE 31 and itself", 0, 2147483657L, x -> x.common(HIGHEST, HIGHEST, 0));
        puts("none but 1", 0, 1, x -> x.common(HIGHEST, ALL_BITS, 0));
        puts("x and x^2+x", 0, 2, x -> x.common(2, 6, 0));
        puts("(x+1)^31 and x^2+x", 0, 3, x -> x.common(ALL_BITS, 6, 0));
    }

    // ---- promise 12

    /** "A POLY to the e (0 and more)"; "-5 for others"; to the 0 it is 1. */
    private static void exponents() {
        long[] wrong = {-1, -2, Long.MIN_VALUE, Integer.MIN_VALUE};
        for (long e : wrong) {
            EDGES.nothing("to the " + e, WITHOUT, x -> x.power(0, e, 1, 0));
            EDGES.nothing("by 0 to the " + e, WITHOUT, x -> x.power(0, e, ZERO, 0));
        }
        for (int a = 0; a <= 9; a++) {
            int place = a;
            puts(a + " to the 0", 0, 1, x -> x.power(place, 0, 1, 0));
            puts(a + " to the 0 by x", 0, 1, x -> x.power(place, 0, 2, 0));
            puts(a + " to the 1", 0, SlowTriSplits.mod(Whole.POLYS[a], 19), x -> x.power(place, 1, 1, 0));
        }
        puts("0 to the 1", 0, 0, x -> x.power(ZERO, 1, 1, 0));
        puts("0 to the most", 0, 0, x -> x.power(ZERO, Long.MAX_VALUE, 1, 0));
        puts("x to the most", 0, SlowTriSplits.pow(2, Long.MAX_VALUE, 2147483657L), x -> x.power(2, Long.MAX_VALUE, HIGHEST, 0));
        puts("x to the most, by all BITS", 0, SlowTriSplits.pow(2, Long.MAX_VALUE, MOST), x -> x.power(2, Long.MAX_VALUE, ALL_BITS, 0));
        puts("x to above 32 bits", 0, SlowTriSplits.pow(2, 4294967297L, 2147483657L), x -> x.power(2, 4294967297L, HIGHEST, 0));
    }

    /** "-2, and nothing happens: the modulus is of DEGREE below 1" (power, and inside and inverse "as power()"). */
    private static void moduli() {
        for (int m = ZERO; m <= ONE; m++) {
            int modulus = m;
            EDGES.nothing("power by " + m, -2, x -> x.power(0, 5, modulus, 0));
            EDGES.nothing("power 0 by " + m, -2, x -> x.power(ZERO, 0, modulus, 0));
            EDGES.nothing("inside by " + m, -2, x -> x.inside(0, 1, modulus, 0));
            EDGES.nothing("inverse by " + m, -2, x -> x.inverse(0, modulus, 0));
            EDGES.nothing("inverse of 0 by " + m + ": -2 ahead of -3", -2, x -> x.inverse(ZERO, modulus, 0));
        }
        puts("power by x", 0, 1, x -> x.power(0, 5, 2, 0));
        puts("power by x+1", 0, 0, x -> x.power(6, 5, 8, 0));
        puts("power by DEGREE 31", 0, SlowTriSplits.pow(MOST, 5, 2147483657L), x -> x.power(ALL_BITS, 5, HIGHEST, 0));
        puts("inside by x", 0, 1, x -> x.inside(0, 2, 2, 0));
        puts("inside by x+1", 0, 1, x -> x.inside(0, 8, 8, 0));
        puts("inside by DEGREE 31", 0, 2147483657L ^ MOST, x -> x.inside(ALL_BITS, 2, HIGHEST, 0));
        puts("inside by itself", 0, 0, x -> x.inside(HIGHEST, 2, HIGHEST, 0));
        puts("inside with 0", 0, 1, x -> x.inside(HIGHEST, ZERO, 1, 0));
        puts("inside of 0", 0, 0, x -> x.inside(ZERO, 0, 1, 0));
        puts("inside of 1", 0, 1, x -> x.inside(ONE, 0, 1, 0));
        puts("inverse by x", 0, 1, x -> x.inverse(ONE, 2, 0));
        puts("inverse by x+1", 0, 1, x -> x.inverse(2, 8, 0));
    }

    // ---- promise 13

    private static void movedOnes() {
        puts("0", 0, 0, x -> x.moved(ZERO, 0));
        puts("1", 0, 1, x -> x.moved(ONE, 0));
        puts("x", 0, 3, x -> x.moved(2, 0));
        puts("x+1", 0, 2, x -> x.moved(8, 0));
        puts("(x+1)^31", 0, 1L << 31, x -> x.moved(ALL_BITS, 0));
        puts("x^31+x^3+1", 0, MOST ^ 14, x -> x.moved(HIGHEST, 0));
    }

    // ---- promise 15

    /** "The inverse .. (of least DEGREE)"; "-3, and nothing happens: there is none." */
    private static void inverses() {
        EDGES.nothing("of 0", -3, x -> x.inverse(ZERO, 1, 0));
        EDGES.nothing("of 0 by x", -3, x -> x.inverse(ZERO, 2, 0));
        EDGES.nothing("of the modulus", -3, x -> x.inverse(1, 1, 0));
        EDGES.nothing("of a multiple", -3, x -> x.inverse(6, 2, 0));
        EDGES.nothing("with a divisor in common", -3, x -> x.inverse(ALL_BITS, 6, 0));
        EDGES.nothing("of the modulus of DEGREE 31", -3, x -> x.inverse(ALL_BITS, ALL_BITS, 0));
        puts("of 1", 0, 1, x -> x.inverse(ONE, HIGHEST, 0));
        puts("of x by DEGREE 31", 0, 1L << 30 | 4, x -> x.inverse(2, HIGHEST, 0));
        puts("of a higher DEGREE", 0, SlowTriSplits.pow(2147483657L, 14, 19), x -> x.inverse(HIGHEST, 1, 0));
        TriSplits x = Whole.still();
        EDGES.due("by DEGREE 31, of the same DEGREE", x.inverse(HIGHEST, ALL_BITS, 0) < 31 ? 1 : 0, 1);
        x.power(HIGHEST, 1, ALL_BITS, 1);
        EDGES.due("it is the inverse", SlowTriSplits.mod(SlowTriSplits.mul(x.bits(0), x.bits(1)), MOST), 1);
    }

    // ---- promise 16

    /** "RISEN by m (1 to 31): its DEGREE; -2, and nothing happens: that would be above 31; -5 for others." */
    private static void risenOnes() {
        int[] wrong = {0, 32, -1, 33, Integer.MIN_VALUE, Integer.MAX_VALUE};
        for (int m : wrong) {
            EDGES.nothing("x by " + m, WITHOUT, x -> x.rise(2, m, 0));
            EDGES.nothing("0 by " + m, WITHOUT, x -> x.rise(ZERO, m, 0));
            EDGES.nothing("DEGREE 31 by " + m, WITHOUT, x -> x.rise(HIGHEST, m, 0));
        }
        for (int m = 1; m <= 31; m++) {
            int by = m;
            puts("x by " + m, 0, 1L << m, x -> x.rise(2, by, 0));
            puts("0 by " + m, 0, 0, x -> x.rise(ZERO, by, 0));
            puts("1 by " + m, 0, 1, x -> x.rise(ONE, by, 0));
            if (m > 1) {
                EDGES.nothing("DEGREE 31 by " + m, -2, x -> x.rise(ALL_BITS, by, 0));
            }
        }
        puts("DEGREE 31 by 1", 0, MOST, x -> x.rise(ALL_BITS, 1, 0));
        puts("DEGREE 2 by 15", 0, 1L << 30 | 1 << 15, x -> x.rise(6, 15, 0));
        EDGES.nothing("DEGREE 2 by 16", -2, x -> x.rise(6, 16, 0));
        puts("DEGREE 3 by 10", 0, 1L << 30 | 1 << 10 | 1, x -> x.rise(0, 10, 0));
        EDGES.nothing("DEGREE 3 by 11", -2, x -> x.rise(0, 11, 0));
        puts("DEGREE 4 by 7", 0, 1L << 28 | 1 << 7 | 1, x -> x.rise(1, 7, 0));
        EDGES.nothing("DEGREE 4 by 8", -2, x -> x.rise(1, 8, 0));
    }

    public static void main(String[] args) {
        putTakes();
        putWithout();
        noPlaces();
        firstAndLastPlace();
        sums();
        productsTo31();
        quotientsAndRests();
        commonOnes();
        exponents();
        moduli();
        movedOnes();
        inverses();
        risenOnes();
        EDGES.close();
    }
}
