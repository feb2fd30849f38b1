/** Promises 23 to 27, 43, 44 and 46 to 49: a PLACE's POLY, its FACTORS, its letters. */
public final class SplitTest {
    private static final Check CHECK = new Check("SplitTest");
    private static final long MOST = 4294967295L;

    private static TriSplits with(long... polys) {
        TriSplits x = new TriSplits();
        for (int i = 0; i < polys.length; i++) {
            x.put(i, polys[i]);
        }
        return x;
    }

    private static void told(long bits, int... due) {
        TriSplits x = with(bits);
        for (int what = 0; what <= 8; what++) {
            CHECK.due("poly " + what + " of " + bits, x.poly(0, what), due[what]);
        }
    }

    private static void polys() {
        told(0, -1, 0, 0, 0, 0, 0, 0, 0, 0);
        told(1, 0, 1, 1, 0, 0, 0, 0, 0, 0);
        told(2, 1, 1, 1, 1, 1, 0, 1, 1, 1);
        told(3, 1, 2, 0, 1, 1, 1, 1, 1, 1);
        told(4, 2, 1, 1, 0, 0, 0, 2, 1, 1);
        told(6, 2, 2, 0, 1, 0, 0, 2, 2, 1);
        told(7, 2, 3, 1, 1, 1, 1, 1, 1, 2);
        told(21, 4, 3, 1, 0, 0, 0, 2, 1, 2);
        told(31, 4, 5, 1, 1, 1, 0, 1, 1, 4);
        told(19, 4, 3, 1, 1, 1, 1, 1, 1, 4);
        told(1L << 31, 31, 1, 1, 0, 0, 0, 31, 1, 1);
        told(1L << 31 | 1, 31, 2, 0, 1, 0, 0, 7, 7, 5);
        told(1L << 31 | 9, 31, 3, 1, 1, 1, 1, 1, 1, 31);
        told(MOST, 31, 32, 0, 0, 0, 0, 31, 1, 1);
        TriSplits x = with(7);
        int[] wrong = {-1, 9, Integer.MAX_VALUE, Integer.MIN_VALUE};
        for (int w : wrong) {
            CHECK.due("poly of no such", x.poly(0, w), -5);
        }
        CHECK.due("poly of PLACE 10", x.poly(10, 0), -5);
        CHECK.due("poly of PLACE -1", x.poly(-1, 0), -5);
        CHECK.due("poly of PLACE -1", x.poly(-1, 9), -5);
        CHECK.due("bits of PLACE 10", x.bits(10), -1);
        CHECK.due("bits of PLACE -1", x.bits(-1), -1);
        CHECK.due("bits of PLACE 0", x.bits(0), 7);
    }

    private static void factors() {
        // x^2 (x+1)^3 (x^3+x+1) (x^3+x^2+1)
        TriSplits x = new TriSplits();
        Check.run(x, "0=x^2 (x+1)^3 tri 3 2 tri 3 1");
        long[] due = {2, 2, 3, 3, 3, 11, 13};
        for (int k = 0; k < due.length; k++) {
            CHECK.due("factor " + k, x.factor(0, k), due[k]);
        }
        CHECK.due("factor 7", x.factor(0, 7), -2);
        CHECK.due("factor most", x.factor(0, Integer.MAX_VALUE), -2);
        CHECK.due("factor -1", x.factor(0, -1), -1);
        CHECK.due("factor of PLACE 10", x.factor(10, 0), -1);
        CHECK.due("factor of PLACE -1", x.factor(-1, 100), -1);
        CHECK.due("factor of 0", x.factor(1, 0), -2);
        CHECK.due("factor of 0", x.factor(1, -1), -1);
        x.put(2, 1);
        CHECK.due("factor of 1", x.factor(2, 0), -2);
        CHECK.due("ofDegree 1", x.ofDegree(0, 1), 5);
        CHECK.due("ofDegree 2", x.ofDegree(0, 2), 0);
        CHECK.due("ofDegree 3", x.ofDegree(0, 3), 2);
        CHECK.due("ofDegree 31", x.ofDegree(0, 31), 0);
        CHECK.due("ofDegree 0", x.ofDegree(0, 0), -1);
        CHECK.due("ofDegree 32", x.ofDegree(0, 32), -1);
        CHECK.due("ofDegree of PLACE 10", x.ofDegree(10, 1), -1);
        CHECK.due("ofDegree of 0", x.ofDegree(1, 1), 0);
        CHECK.due("ofDegree of 1", x.ofDegree(2, 1), 0);
        x.put(3, 1L << 31 | 9);
        CHECK.due("ofDegree 31", x.ofDegree(3, 31), 1);
        // all six of DEGREE 5 and x+1 make x^31+1
        x.put(4, 1L << 31 | 1);
        long[] fives = {3, 37, 41, 47, 55, 59, 61};
        for (int k = 0; k < fives.length; k++) {
            CHECK.due("of x^31+1 factor " + k, x.factor(4, k), fives[k]);
        }
    }

    /** Each POLY to DEGREE 10, by dividing it by all that are IRREDUCIBLE. */
    private static void allSmallOnes() {
        for (long f = 2; f < 2048; f++) {
            TriSplits x = with(f);
            java.util.List<Long> due = SlowTriSplits.factors(f);
            CHECK.due("how many of " + f, x.poly(0, 6), due.size());
            for (int k = 0; k < due.size(); k++) {
                CHECK.due("factor " + k + " of " + f, x.factor(0, k), due.get(k));
            }
            CHECK.due("order of " + f, x.order(0), SlowTriSplits.orderOf(f));
        }
    }

    private static void orders() {
        TriSplits x = with(0, 1, 2, 3, 7, 21, 31, 11, 6, 1L << 31 | 9);
        long[] due = {-2, -2, -2, 1, 3, 6, 5, 7, -2, 2147483647L};
        for (int i = 0; i < 10; i++) {
            CHECK.due("order of PLACE " + i, x.order(i), due[i]);
        }
        CHECK.due("order of PLACE 10", x.order(10), -1);
        CHECK.due("order of PLACE -1", x.order(-1), -1);
        x.put(0, MOST);
        CHECK.due("(x+1)^31", x.order(0), 32);
        Check.run(x, "0=(x+1)^5;1=(x+1)^4;2=(x+1)^2 tri 3 1 tri 4 1;3=tri 3 1^3 tri 2 1");
        CHECK.due("(x+1)^5", x.order(0), 8);
        CHECK.due("(x+1)^4", x.order(1), 4);
        CHECK.due("2 times 7 times 15", x.order(2), 210);
        CHECK.due("4 times 7 times 3", x.order(3), 84);
    }

    private static void letters(long bits, String poly, String factors) {
        TriSplits x = with(bits);
        CHECK.due("letters of " + bits, Check.letters(x, 0, false).equals(poly) ? 1 : 0, 1);
        CHECK.due("spelt " + bits, Check.letters(x, 0, true).equals(factors) ? 1 : 0, 1);
        CHECK.due("letter behind", x.letter(0, poly.length()), -2);
        CHECK.due("spell behind", x.spell(0, factors.length()), -2);
        CHECK.due("how many letters", x.letter(0, -1), poly.length());
        CHECK.due("how many spelt", x.spell(0, -1), factors.length());
        CHECK.due("letter far behind", x.letter(0, Integer.MAX_VALUE), -2);
        CHECK.due("letter below NONE", x.letter(0, -2), -1);
        CHECK.due("spell below NONE", x.spell(0, -2), -1);
    }

    private static void texts() {
        letters(0, "0", "0");
        letters(1, "1", "1");
        letters(2, "x", "(x)");
        letters(3, "x+1", "(x+1)");
        letters(4, "x^2", "(x)^2");
        letters(39, "x^5+x^2+x+1", "(x+1)^2(x^3+x+1)");
        letters(27, "x^4+x^3+x+1", "(x+1)^2(x^2+x+1)");
        letters(1L << 31, "x^31", "(x)^31");
        letters(MOST, "x^31+x^30+x^29+x^28+x^27+x^26+x^25+x^24+x^23+x^22+x^21+x^20+x^19+x^18+x^17+x^16+x^15+x^14+x^13+x^12+x^11+x^10"
            + "+x^9+x^8+x^7+x^6+x^5+x^4+x^3+x^2+x+1", "(x+1)^31");
        letters(1L << 31 | 1, "x^31+1",
            "(x+1)(x^5+x^2+1)(x^5+x^3+1)(x^5+x^3+x^2+x+1)(x^5+x^4+x^2+x+1)(x^5+x^4+x^3+x+1)(x^5+x^4+x^3+x^2+1)");
        TriSplits x = with(3);
        CHECK.due("letter of PLACE 10", x.letter(10, 0), -1);
        CHECK.due("letter of PLACE -1", x.letter(-1, -1), -1);
        CHECK.due("spell of PLACE 10", x.spell(10, 0), -1);
        CHECK.due("spell of PLACE -1", x.spell(-1, -1), -1);
        CHECK.due("letter far below NONE", x.letter(0, Integer.MIN_VALUE), -1);
    }

    private static void divisors() {
        TriSplits x = with(12, 0, 1, 7, 1L << 31);
        long[] due = {1, 2, 3, 4, 6, 12};
        CHECK.due("how many divisors", x.divisor(0, -1), 6);
        for (int k = 0; k < due.length; k++) {
            CHECK.due("divisor " + k, x.divisor(0, k), due[k]);
        }
        CHECK.due("divisor 6", x.divisor(0, 6), -2);
        CHECK.due("divisors of 0", x.divisor(1, -1), 0);
        CHECK.due("divisor of 0", x.divisor(1, 0), -2);
        CHECK.due("divisors of 1", x.divisor(2, -1), 1);
        CHECK.due("divisor of 1", x.divisor(2, 0), 1);
        CHECK.due("divisor of 1", x.divisor(2, 1), -2);
        CHECK.due("divisors of 7", x.divisor(3, -1), 2);
        CHECK.due("divisor of 7", x.divisor(3, 1), 7);
        CHECK.due("divisors of x^31", x.divisor(4, -1), 32);
        CHECK.due("divisor of x^31", x.divisor(4, 31), 1L << 31);
        CHECK.due("below NONE", x.divisor(0, -2), -1);
        CHECK.due("of PLACE 10", x.divisor(10, -1), -1);
        CHECK.due("of PLACE -1", x.divisor(-1, 0), -1);
        // no POLY of DEGREE to 31 has more
        Check.run(x, "0=x^5(x+1)^4 tri 2 1^2 tri 3 1 tri 3 2 tri 4 1 tri 4 3 (x^4+x^3+x^2+x+1)");
        int many = (int) x.divisor(0, -1);
        long poly = x.bits(0);
        CHECK.due("very many divisors", many, 6 * 5 * 3 * 32);
        long last = 0;
        for (int k = 0; k < many; k++) {
            long d = with(poly).divisor(0, k);
            CHECK.due("divides", d > 0 ? SlowTriSplits.mod(poly, d) : 1, 0);
            CHECK.due("rises", d > last ? 1 : 0, 1);
            last = d;
        }
        CHECK.due("the last is itself", last, poly);
        CHECK.due("one more", x.divisor(0, many), -2);
    }

    private static void couples() {
        TriSplits x = with(0, 1, 2, 4, 6, 12, 1L << 31 | 1);
        int[] due = {0, 1, 1, 1, 2, 2, 64};
        for (int i = 0; i < due.length; i++) {
            CHECK.due("couples of PLACE " + i, x.couples(i), due[i]);
        }
        CHECK.due("couples of PLACE 10", x.couples(10), -1);
        CHECK.due("couples of PLACE -1", x.couples(-1), -1);
    }

    private static void mirrors() {
        TriSplits x = with(0, 1, 2, 7, 11, 39, 6, 31, 22);
        int[] same = {1, 1, 0, 1, 0, 0, 0, 1, 0};
        int[] joint = {-1, 0, 0, 2, 0, 2, 1, 4, 0};
        for (int i = 0; i < same.length; i++) {
            CHECK.due("mirror 0 of PLACE " + i, x.mirror(i, 0), same[i]);
            CHECK.due("mirror 1 of PLACE " + i, x.mirror(i, 1), joint[i]);
        }
        CHECK.due("mirror 2", x.mirror(0, 2), -5);
        CHECK.due("mirror -1", x.mirror(0, -1), -5);
        CHECK.due("mirror of PLACE 10", x.mirror(10, 0), -5);
        CHECK.due("mirror of PLACE -1", x.mirror(-1, 1), -5);
    }

    private static void akin() {
        TriSplits x = with(0, 1, 6, 12, 10, 2, 3, 14);
        CHECK.due("0 and 1", x.akin(0, 1), 1);
        CHECK.due("0 and 0", x.akin(0, 0), 1);
        CHECK.due("0 and x", x.akin(0, 5), 0);
        CHECK.due("x(x+1) and x^2(x+1)", x.akin(2, 3), 1);
        CHECK.due("x^2(x+1) and x(x+1)^2", x.akin(3, 4), 1);
        CHECK.due("x(x+1) and x", x.akin(2, 5), 0);
        CHECK.due("x and x+1", x.akin(5, 6), 0);
        CHECK.due("x(x+1) and x(x^2+x+1)", x.akin(2, 7), 0);
        CHECK.due("PLACE 10", x.akin(10, 0), -1);
        CHECK.due("PLACE -1", x.akin(0, -1), -1);
    }

    public static void main(String[] args) {
        polys();
        factors();
        allSmallOnes();
        orders();
        texts();
        divisors();
        couples();
        mirrors();
        akin();
        CHECK.close();
    }
}
