import java.util.Arrays;

/** An object with much in it, made the same way each time; and all that can be told of an object. */
final class Whole {
    /** What the PLACES have in most of the tests at edges: every kind of POLY that a promise tells apart. */
    static final long[] POLYS = {11, 19, 2, 0, 1, 2147483657L, 6, 4294967295L, 3, 21};

    private static final int ROW = 20;

    /** A call on an object, with its answer. */
    interface Call {
        long on(TriSplits x);
    }

    /** Makes an object that is asked or changed then. */
    interface Maker {
        TriSplits make();
    }

    private Whole() {
    }

    /** Ten ACTS can be UNDONE, two unlike SHELVES are KEPT, there are a REGISTER, a FAULT within two ( and a TAPE. */
    static TriSplits filled(long... polys) {
        TriSplits x = new TriSplits();
        x.put(0, 7);
        x.register(0, 2);
        x.jump(2);
        x.keep(1);
        x.put(1, 25);
        x.put(9, 4);
        x.register(1, 9);
        x.keep(0);
        Check.run(x, "0=x(x+(1$");
        for (int i = 0; i < polys.length; i++) {
            x.put(i, polys[i]);
        }
        x.step(3);
        Check.feed(x, "7=x^5;8=x");
        return x;
    }

    static TriSplits filled() {
        return filled(POLYS);
    }

    /** As filled, but nothing can be UNDONE, so that one ACT more is seen in how many can. */
    static TriSplits still() {
        TriSplits x = filled();
        x.keep(0);
        x.back(0);
        return x;
    }

    /** PLACES, the REGISTER, and what count tells. */
    static long[] now(TriSplits x) {
        long[] row = new long[ROW];
        for (int i = 0; i < 10; i++) {
            row[i] = x.bits(i);
        }
        for (int i = 0; i < 4; i++) {
            row[10 + i] = x.shift(i);
        }
        for (int i = 0; i < 6; i++) {
            row[14 + i] = x.count(i);
        }
        return row;
    }

    static long[] faults(TriSplits x) {
        return new long[] {x.fault(0), x.fault(1), x.fault(2)};
    }

    /** What is now, what each undo leads to, and what is on the SHELVES. The object is used up by it. */
    static long[] behind(TriSplits x) {
        long[] all = now(x);
        for (int i = 0; i < 11; i++) {
            all = with(all, x.undo(), x);
        }
        for (int shelf = 0; shelf < 2; shelf++) {
            all = with(all, x.back(shelf), x);
        }
        return all;
    }

    static long[] all(TriSplits x) {
        return joined(faults(x), behind(x));
    }

    private static long[] with(long[] all, long answer, TriSplits x) {
        return joined(joined(all, new long[] {answer}), now(x));
    }

    private static long[] joined(long[] a, long[] b) {
        long[] both = Arrays.copyOf(a, a.length + b.length);
        System.arraycopy(b, 0, both, a.length, b.length);
        return both;
    }
}
