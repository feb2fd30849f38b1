/** Promises 6 to 16: ACTS on PLACES. */
public final class ActsTest {
    private static final Check CHECK = new Check("ActsTest");

    private static TriSplits with(long... polys) {
        TriSplits x = new TriSplits();
        for (int i = 0; i < polys.length; i++) {
            x.put(i, polys[i]);
        }
        return x;
    }

    /** An ACT that answers a DEGREE: what came of it, and that it is one ACT. */
    private static void did(TriSplits x, String call, int degree, int to, long bits) {
        CHECK.due(call, degree, 63 - Long.numberOfLeadingZeros(bits));
        CHECK.due(call + ": bits", x.bits(to), bits);
    }

    private static void put() {
        TriSplits x = new TriSplits();
        CHECK.due("put 0", x.put(0, 0), -1);
        CHECK.due("put 1", x.put(0, 1), 0);
        CHECK.due("put 6", x.put(9, 6), 2);
        CHECK.due("put most", x.put(1, 4294967295L), 31);
        CHECK.due("bits", x.bits(1), 4294967295L);
        CHECK.due("put too much", x.put(1, 4294967296L), -5);
        CHECK.due("put -1", x.put(1, -1), -5);
        CHECK.due("put far below", x.put(1, Long.MIN_VALUE), -5);
        CHECK.due("put to -1", x.put(-1, 3), -5);
        CHECK.due("put to 10", x.put(10, 3), -5);
        CHECK.due("bits", x.bits(1), 4294967295L);
        CHECK.due("ACTS", x.count(1), 4);
    }

    private static void addAndMultiply() {
        TriSplits x = with(11, 7, 4294967295L, 0, 65536);
        did(x, "add", x.add(0, 1, 5), 5, 12);
        did(x, "add alike", x.add(0, 0, 5), 5, 0);
        did(x, "add to one of the two", x.add(0, 1, 0), 0, 12);
        x = with(11, 7, 4294967295L, 0, 65536, 32768);
        did(x, "multiply", x.multiply(0, 1, 6), 6, 49);
        did(x, "multiply by 0", x.multiply(2, 3, 6), 6, 0);
        did(x, "multiply to 31", x.multiply(4, 5, 6), 6, 1L << 31);
        Check.run(x, "7=(x+1)^30;8=x+1");
        did(x, "multiply to all 32 bits", x.multiply(7, 8, 6), 6, 4294967295L);
        did(x, "multiply to 31", x.multiply(4, 5, 6), 6, 1L << 31);
        CHECK.due("multiply to 32", x.multiply(4, 4, 6), -2);
        CHECK.due("multiply most", x.multiply(2, 2, 6), -2);
        CHECK.due("bits", x.bits(6), 1L << 31);
    }

    private static void divideAndRest() {
        TriSplits x = with(50, 7, 0, 4294967295L, 3, 1);
        did(x, "divide", x.divide(0, 1, 6), 6, 11);
        did(x, "divide a lesser one", x.divide(1, 0, 6), 6, 0);
        did(x, "divide 0", x.divide(2, 1, 6), 6, 0);
        did(x, "divide by 1", x.divide(3, 5, 6), 6, 4294967295L);
        did(x, "divide most", x.divide(3, 4, 6), 6, 0x55555555L);
        CHECK.due("divide by 0", x.divide(0, 2, 6), -2);
        CHECK.due("rest by 0", x.rest(0, 2, 6), -2);
        CHECK.due("divide 0 by 0", x.divide(2, 2, 6), -2);
        CHECK.due("bits", x.bits(6), 0x55555555L);
        did(x, "rest", x.rest(0, 1, 6), 6, 3);
        did(x, "rest of a lesser one", x.rest(1, 0, 6), 6, 7);
        did(x, "rest by itself", x.rest(3, 3, 6), 6, 0);
        did(x, "rest by 1", x.rest(3, 5, 6), 6, 0);
        did(x, "rest most", x.rest(3, 1, 6), 6, 3);
    }

    private static void common() {
        TriSplits x = with(49, 14, 0, 11, 13);
        did(x, "common", x.common(0, 1, 6), 6, 7);
        did(x, "common of a prime two", x.common(3, 4, 6), 6, 1);
        did(x, "common with 0", x.common(2, 1, 6), 6, 14);
        did(x, "common with 0", x.common(1, 2, 6), 6, 14);
        did(x, "common of 0 and 0", x.common(2, 2, 6), 6, 0);
    }

    private static void power() {
        TriSplits x = with(2, 11, 0, 1, 3, 4);
        did(x, "power 7", x.power(0, 7, 1, 6), 6, 1);
        did(x, "power 3", x.power(0, 3, 1, 6), 6, 3);
        did(x, "power 0", x.power(0, 0, 1, 6), 6, 1);
        did(x, "0 to the 0", x.power(2, 0, 1, 6), 6, 1);
        did(x, "0 to the 5", x.power(2, 5, 1, 6), 6, 0);
        did(x, "power by x and 1", x.power(0, 12, 4, 6), 6, 1);
        did(x, "power by x", x.power(4, 12, 0, 6), 6, 1);
        did(x, "power by x^2", x.power(0, 2, 5, 6), 6, 0);
        did(x, "the greatest e", x.power(0, Long.MAX_VALUE, 1, 6), 6, 1);
        did(x, "another great e", x.power(0, Long.MAX_VALUE - 4, 1, 6), 6, 3);
        CHECK.due("ACTS", x.count(1), 10);
        CHECK.due("by 0", x.power(0, 3, 2, 6), -2);
        CHECK.due("by 1", x.power(0, 3, 3, 6), -2);
        CHECK.due("e -1", x.power(0, -1, 1, 6), -5);
        CHECK.due("e far below", x.power(0, Long.MIN_VALUE, 1, 6), -5);
        CHECK.due("e -1 by 0", x.power(0, -1, 2, 6), -5);
        CHECK.due("bits", x.bits(6), 3);
    }

    private static void movedAndInside() {
        TriSplits x = with(11, 7, 0, 1, 1L << 31, 2, 19, 4294967295L, 3);
        did(x, "moved", x.moved(0, 9), 9, 13);
        did(x, "moved x^2+x+1", x.moved(1, 9), 9, 7);
        did(x, "moved 0", x.moved(2, 9), 9, 0);
        did(x, "moved 1", x.moved(3, 9), 9, 1);
        did(x, "moved x^31", x.moved(4, 9), 9, 4294967295L);
        did(x, "moved back", x.moved(9, 9), 9, 1L << 31);
        did(x, "inside", x.inside(0, 8, 6, 9), 9, 13);
        did(x, "inside, by a lesser modulus", x.inside(0, 5, 1, 9), 9, 2);
        did(x, "inside with 0", x.inside(0, 2, 6, 9), 9, 1);
        did(x, "inside with 1", x.inside(0, 3, 6, 9), 9, 1);
        did(x, "inside of 0", x.inside(2, 5, 6, 9), 9, 0);
        did(x, "inside of 1", x.inside(3, 5, 6, 9), 9, 1);
        did(x, "inside by x", x.inside(7, 5, 5, 9), 9, 1);
        CHECK.due("inside by 0", x.inside(0, 5, 2, 9), -2);
        CHECK.due("inside by 1", x.inside(0, 5, 3, 9), -2);
        CHECK.due("bits", x.bits(9), 1);
    }

    private static void inverse() {
        TriSplits x = with(2, 11, 0, 1, 3, 6, 4294967295L);
        did(x, "inverse of x", x.inverse(0, 1, 9), 9, 5);
        did(x, "inverse of 1", x.inverse(3, 1, 9), 9, 1);
        did(x, "inverse of a higher one", x.inverse(6, 1, 9), 9, 7);
        did(x, "inverse by x and 1", x.inverse(0, 4, 9), 9, 1);
        did(x, "inverse by no FIELD", x.inverse(1, 5, 9), 9, 1);
        CHECK.due("of 0", x.inverse(2, 1, 9), -3);
        CHECK.due("of a multiple", x.inverse(1, 1, 9), -3);
        CHECK.due("of one with a common divisor", x.inverse(4, 5, 9), -3);
        CHECK.due("by 0", x.inverse(0, 2, 9), -2);
        CHECK.due("0 by 1", x.inverse(2, 3, 9), -2);
        CHECK.due("bits", x.bits(9), 1);
    }

    private static void rise() {
        TriSplits x = with(7, 0, 1, 2, 1L << 16, 1L << 31);
        did(x, "rise by 3", x.rise(0, 3, 9), 9, 73);
        did(x, "rise by 15", x.rise(0, 15, 9), 9, 1L << 30 | 1 << 15 | 1);
        did(x, "rise by 1", x.rise(5, 1, 9), 9, 1L << 31);
        did(x, "x by 31", x.rise(3, 31, 9), 9, 1L << 31);
        did(x, "0 by 31", x.rise(1, 31, 9), 9, 0);
        did(x, "1 by 31", x.rise(2, 31, 9), 9, 1);
        CHECK.due("rise above", x.rise(0, 16, 9), -2);
        CHECK.due("rise above", x.rise(4, 2, 9), -2);
        CHECK.due("rise far above", x.rise(5, 31, 9), -2);
        CHECK.due("by 0", x.rise(0, 0, 9), -5);
        CHECK.due("by -1", x.rise(0, -1, 9), -5);
        CHECK.due("by 32", x.rise(0, 32, 9), -5);
        CHECK.due("0 by 32", x.rise(1, 32, 9), -5);
        CHECK.due("bits", x.bits(9), 1);
    }

    private static void noPlaces() {
        TriSplits x = with(7, 11, 13);
        int[] none = {-1, 10, Integer.MAX_VALUE, Integer.MIN_VALUE};
        for (int n : none) {
            CHECK.due("add", x.add(n, 0, 0), -5);
            CHECK.due("add", x.add(0, n, 0), -5);
            CHECK.due("add", x.add(0, 0, n), -5);
            CHECK.due("multiply", x.multiply(n, 0, 0), -5);
            CHECK.due("multiply", x.multiply(0, n, 0), -5);
            CHECK.due("multiply", x.multiply(0, 0, n), -5);
            CHECK.due("divide", x.divide(n, 5, 0), -5);
            CHECK.due("divide", x.divide(0, n, 0), -5);
            CHECK.due("divide", x.divide(0, 5, n), -5);
            CHECK.due("rest", x.rest(n, 5, 0), -5);
            CHECK.due("rest", x.rest(0, n, 0), -5);
            CHECK.due("rest", x.rest(0, 5, n), -5);
            CHECK.due("common", x.common(n, 0, 0), -5);
            CHECK.due("common", x.common(0, n, 0), -5);
            CHECK.due("common", x.common(0, 0, n), -5);
            CHECK.due("power", x.power(n, 2, 5, 0), -5);
            CHECK.due("power", x.power(0, 2, n, 0), -5);
            CHECK.due("power", x.power(0, 2, 5, n), -5);
            CHECK.due("moved", x.moved(n, 0), -5);
            CHECK.due("moved", x.moved(0, n), -5);
            CHECK.due("inside", x.inside(n, 0, 1, 0), -5);
            CHECK.due("inside", x.inside(0, n, 1, 0), -5);
            CHECK.due("inside", x.inside(0, 0, n, 0), -5);
            CHECK.due("inside", x.inside(0, 0, 1, n), -5);
            CHECK.due("inverse", x.inverse(n, 1, 0), -5);
            CHECK.due("inverse", x.inverse(0, n, 0), -5);
            CHECK.due("inverse", x.inverse(0, 1, n), -5);
            CHECK.due("rise", x.rise(n, 1, 0), -5);
            CHECK.due("rise", x.rise(0, 1, n), -5);
        }
        CHECK.due("ACTS", x.count(1), 3);
        CHECK.due("WEIGHTS", x.count(5), 9);
    }

    public static void main(String[] args) {
        put();
        addAndMultiply();
        divideAndRest();
        common();
        power();
        movedAndInside();
        inverse();
        rise();
        noPlaces();
        CHECK.close();
    }
}
