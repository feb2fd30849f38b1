/** Runs of calls, drawn by a fixed row of numbers, on the class and on its slow double; each answer compared. */
public final class RandomRunsTest {
    private static final Check CHECK = new Check("RandomRunsTest");
    private static final String[] PIECES = {
        "0", "1", "x", "x", "x^2", "x^3", "x^5", "^", "^2", "^3", "^16", "^0", "^31", "^32", "+", "+", "+", "*", " ", "  ", "(", "(", "(",
        ")", ")", ")", "p0", "p1", "p 3", "p9", "p10", "p", "tri 3 1", "tri 31 3", "tri5 2", "tri 4 4", "tri 1 1", "tri 32 1",
        "tri", "rev(", "rev (", "rev", "der(", "der", ";", ";1=", ";2=", "; 3 =", "=", "y", "xx", "X", "2", "10", "01", "00", "\u0000", "\u00ff",
        "99999999999999999999"
    };

    /** An object is used for at most 512 calls; the last TEXT and the last look at all take up to 42. */
    private static final int MOST_CALLS = 470;

    private static long seed = 20261118;
    private static int calls;

    private static int draw(int n) {
        seed = seed * 6364136223846793005L + 1442695040888963407L;
        return (int) Long.remainderUnsigned(seed >>> 33, n);
    }

    private static int place() {
        int d = draw(40);
        return d == 0 ? -1 : d == 1 ? 10 : d == 2 ? 11 : d < 20 ? draw(3) : draw(10);
    }

    private static long someBits() {
        int d = draw(30);
        if (d == 0) {
            return -1 - draw(3);
        }
        if (d == 1) {
            return 4294967296L + draw(3);
        }
        int degree = d < 12 ? draw(6) : d < 22 ? draw(14) : draw(32);
        long low = (long) draw(65536) << 16 | draw(65536);
        return 1L << degree | low & (1L << degree) - 1 | (d % 3 == 0 ? 1 : 0);
    }

    /** Irreducible ones come too rarely by chance for what fields ask. */
    private static long someModulus() {
        long[] moduli = {2, 3, 7, 11, 13, 19, 31, 37, 67, 73, 131, 283, 285, 529, 1033, 2053, 4179, 8219, 65581, 69643, 4294967291L, 2147483657L};
        return moduli[draw(moduli.length)];
    }

    private static int small(int low, int high) {
        int d = draw(20);
        return d == 0 ? low - 1 - draw(2) : d == 1 ? high + 1 + draw(2) : d == 2 ? low : d == 3 ? high : low + draw(high - low + 1);
    }

    private static String goodSum(int depth) {
        StringBuilder b = new StringBuilder();
        for (int n = 1 + draw(3); n > 0; n--) {
            for (int m = 1 + draw(2); m > 0; m--) {
                int d = draw(depth > 3 ? 6 : 10);
                b.append(d < 2 ? "x" : d == 2 ? "1" : d == 3 ? "0" : d == 4 ? "p" + draw(10) : d == 5 ? "tri " + (2 + draw(12)) + " 1"
                    : d == 6 ? "rev(" + goodSum(depth + 1) + ")" : d == 7 ? "der (" + goodSum(depth + 1) + ")" : "(" + goodSum(depth + 1) + ")");
                b.append(draw(3) == 0 ? "^" + draw(5) : "").append(m > 1 ? draw(2) == 0 ? " " : "*" : "");
            }
            b.append(n > 1 ? "+" : "");
        }
        return b.toString();
    }

    private static String someText() {
        StringBuilder b = new StringBuilder();
        if (draw(3) > 0) {
            for (int n = 1 + draw(3); n > 0; n--) {
                b.append(draw(10)).append("=").append(goodSum(0)).append(n > 1 ? ";" : "");
            }
            if (draw(3) == 0) {
                b.insert(draw(b.length() + 1), PIECES[draw(PIECES.length)]);
            }
        } else {
            b.append(draw(8) == 0 ? "" : draw(10) + "=");
            for (int n = draw(12); n > 0; n--) {
                b.append(PIECES[draw(PIECES.length)]);
            }
        }
        if (b.length() > 300) {
            b.setLength(300);
        }
        return b.toString();
    }

    private static void both(String call, long got, long want) {
        calls++;
        CHECK.due(call, got, want);
    }

    private static void text(TriSplits x, SlowTriSplits y) {
        String t = someText();
        for (int i = 0; i < t.length(); i += 20) {
            int[] w = new int[5];
            for (int j = 0; j < 20; j++) {
                w[j / 4] = w[j / 4] << 8 | (i + j < t.length() ? t.charAt(i + j) & 255 : 0);
            }
            both("feed of " + t, x.feed(w[0], w[1], w[2], w[3], w[4]), y.feed(w[0], w[1], w[2], w[3], w[4]));
        }
        both("end of " + t, x.end(t.length()), y.end(t.length()));
        both("run of " + t, x.run(), y.run());
        for (int i = -1; i < 4; i++) {
            both("fault " + i + " of " + t, x.fault(i), y.fault(i));
        }
    }

    private static void act(TriSplits x, SlowTriSplits y) {
        int a = place();
        int b = place();
        int to = place();
        int m = draw(12) == 0 ? place() : 8 + draw(2);
        switch (draw(20)) {
            case 0:
            case 1:
            case 2: {
                long bits = someBits();
                both("put " + bits, x.put(to, bits), y.put(to, bits));
                break;
            }
            case 3: {
                long bits = someModulus();
                int modulus = 8 + draw(2);
                both("put " + bits, x.put(modulus, bits), y.put(modulus, bits));
                break;
            }
            case 4:
                both("add", x.add(a, b, to), y.add(a, b, to));
                break;
            case 5:
                both("multiply", x.multiply(a, b, to), y.multiply(a, b, to));
                break;
            case 6:
                both("divide", x.divide(a, b, to), y.divide(a, b, to));
                break;
            case 7:
                both("rest", x.rest(a, m, to), y.rest(a, m, to));
                break;
            case 8:
                both("common", x.common(a, b, to), y.common(a, b, to));
                break;
            case 9: {
                long e = draw(10) == 0 ? -1 : draw(3) == 0 ? Long.MAX_VALUE - draw(100) : draw(1000);
                both("power " + e, x.power(a, e, m, to), y.power(a, e, m, to));
                break;
            }
            case 10:
                both("moved", x.moved(a, to), y.moved(a, to));
                break;
            case 11:
                both("inside", x.inside(a, b, m, to), y.inside(a, b, m, to));
                break;
            case 12:
                both("inverse", x.inverse(a, m, to), y.inverse(a, m, to));
                break;
            case 13: {
                int r = draw(2) == 0 ? 1 + draw(4) : small(1, 31);
                both("rise " + r, x.rise(a, r, to), y.rise(a, r, to));
                break;
            }
            case 14: {
                long s = draw(10) == 0 ? -1 : draw(10) == 0 ? 2147483647L + draw(2) : draw(3) == 0 ? draw(3) : draw(1 << draw(20));
                both("register " + s, x.register(a, s), y.register(a, s));
                break;
            }
            case 15: {
                int n = small(1, 60);
                both("step " + n, x.step(n), y.step(n));
                break;
            }
            case 16: {
                int n = draw(8) == 0 ? 0 : draw(8) == 0 ? 1000000001 : draw(2) == 0 ? 1 + draw(100) : 1000000000 - draw(100000000);
                both("jump " + n, x.jump(n), y.jump(n));
                break;
            }
            case 17:
                both("undo", x.undo(), y.undo());
                break;
            case 18: {
                int s = draw(12) == 0 ? 2 : draw(2);
                both("keep " + s, x.keep(s), y.keep(s));
                break;
            }
            default: {
                int s = draw(12) == 0 ? -1 : draw(2);
                both("back " + s, x.back(s), y.back(s));
                break;
            }
        }
    }

    private static void ask(TriSplits x, SlowTriSplits y) {
        int a = place();
        int b = place();
        int m = draw(12) == 0 ? place() : 8 + draw(2);
        boolean flag = draw(2) == 0;
        int d = draw(29);
        switch (d) {
            case 0: both("bits", x.bits(a), y.bits(a)); break;
            case 1: { int w = small(0, 8); both("poly " + w, x.poly(a, w), y.poly(a, w)); break; }
            case 2: { int k = small(0, 6); both("factor " + k, x.factor(a, k), y.factor(a, k)); break; }
            case 3: { int k = draw(3) > 0 ? 1 + draw(6) : small(1, 31); both("ofDegree " + k, x.ofDegree(a, k), y.ofDegree(a, k)); break; }
            case 4: both("order of " + y.bits(a), x.order(a), y.order(a)); break;
            case 5: { int n = small(2, 2000); int k = small(1, Math.max(n - 1, 1)); both("swan " + n + " " + k, x.swan(n, k), y.swan(n, k)); break; }
            case 6: { int n = small(2, 2000); both("evens " + n, x.evens(n), y.evens(n)); break; }
            case 7: { int w = small(0, 1); both("multiple " + w + " of " + y.bits(a), x.multiple(a, w), y.multiple(a, w)); break; }
            case 8: {
                int n = small(1, 60);
                long s = ((long) draw(1 << 20) << 40 | (long) draw(1 << 20) << 20 | draw(1 << 20)) & (1L << n) - 1;
                s = draw(10) == 0 ? 1L << n : draw(5) == 0 ? s & s >> 7 & s >> 20 : s;
                int w = small(0, 1);
                both("shortest " + s + " " + n, x.shortest(s, n, w), y.shortest(s, n, w));
                break;
            }
            case 9: { int n = draw(3) > 0 ? small(2, 12) : small(2, 24); int i = small(-1, 5); both("trinomial " + n + " " + flag + " " + i, x.trinomial(n, flag, i), y.trinomial(n, flag, i)); break; }
            case 10: { int n = draw(20) > 0 ? small(1, 12) : small(1, 20); both("least " + n + " " + flag, x.least(n, flag), y.least(n, flag)); break; }
            case 11: { int n = small(1, 31); both("many " + n + " " + flag, x.many(n, flag), y.many(n, flag)); break; }
            case 12: { int n = small(2, 24); int k = small(1, Math.max(n - 1, 1)); int r = draw(2) == 0 ? 1 + draw(50) : small(1, 1000); both("stays " + n + " " + k + " " + r, x.stays(n, k, r), y.stays(n, k, r)); break; }
            case 13: { int n = small(2, 24); both("bare " + n, x.bare(n), y.bare(n)); break; }
            case 14: both("minimal " + y.bits(a) + " by " + y.bits(m), x.minimal(a, m), y.minimal(a, m)); break;
            case 15: both("trace", x.trace(a, m), y.trace(a, m)); break;
            case 16: both("conjugates", x.conjugates(a, m), y.conjugates(a, m)); break;
            case 17: both("log", x.log(a, b, m), y.log(a, b, m)); break;
            case 18: both("roots", x.roots(a, m), y.roots(a, m)); break;
            case 19: { int w = small(0, 3); both("shift " + w, x.shift(w), y.shift(w)); break; }
            case 20: { int k = small(-1, 20); both("letter " + k, x.letter(a, k), y.letter(a, k)); break; }
            case 21: { int k = small(-1, 20); both("spell " + k, x.spell(a, k), y.spell(a, k)); break; }
            case 22: both("next " + y.bits(a) + " " + flag, x.next(a, flag), y.next(a, flag)); break;
            case 23: { int k = small(-1, 10); both("divisor " + k, x.divisor(a, k), y.divisor(a, k)); break; }
            case 24: both("couples", x.couples(a), y.couples(a)); break;
            case 25: { int w = small(0, 1); both("mirror " + w, x.mirror(a, w), y.mirror(a, w)); break; }
            case 26: both("akin", x.akin(a, b), y.akin(a, b)); break;
            default: { int w = small(0, 5); both("count " + w, x.count(w), y.count(w)); break; }
        }
    }

    private static void sameState(TriSplits x, SlowTriSplits y) {
        for (int i = 0; i < 10; i++) {
            both("bits of " + i, x.bits(i), y.bits(i));
        }
        for (int i = 0; i < 6; i++) {
            both("count " + i, x.count(i), y.count(i));
        }
        for (int i = 0; i < 4; i++) {
            both("shift " + i, x.shift(i), y.shift(i));
        }
    }

    public static void main(String[] args) {
        int runs = args.length > 0 ? Integer.parseInt(args[0]) : 300;
        for (int run = 0; run < runs && !CHECK.isWrong(); run++) {
            TriSplits x = new TriSplits();
            SlowTriSplits y = new SlowTriSplits();
            for (calls = 0; calls < MOST_CALLS && !CHECK.isWrong();) {
                int d = draw(10);
                if (d == 0) {
                    text(x, y);
                } else if (d < 6) {
                    act(x, y);
                } else {
                    ask(x, y);
                }
            }
            sameState(x, y);
        }
        CHECK.close();
    }
}
