import java.util.Arrays;

/** What the tests at edges share: calls by which nothing happens, and ACTS that do one thing alone. */
final class Edges {
    private final Check check;

    Edges(String name) {
        check = new Check(name);
    }

    void due(String call, long got, long want) {
        check.due(call, got, want);
    }

    void same(String call, long[] got, long[] want) {
        int at = Arrays.mismatch(got, want);
        check.due(call + ": first unlike at", at, -1);
    }

    /** A call on an object with much in it: its answer, and all is as it was. */
    void nothing(String call, long due, Whole.Call asked) {
        nothing(call, due, Whole::filled, asked);
    }

    void nothing(String call, long due, Whole.Maker maker, Whole.Call asked) {
        TriSplits x = maker.make();
        check.due(call, asked.on(x), due);
        same(call + ": nothing happens", Whole.all(x), Whole.all(maker.make()));
    }

    /** An ACT: its answer, the BITS that one PLACE has then, and that undo takes all of it back. */
    void puts(String call, long due, int to, long bits, Whole.Call act) {
        TriSplits x = Whole.still();
        long[] want = Whole.now(x);
        check.due(call, act.on(x), due);
        check.due(call + ": BITS", x.bits(to), bits);
        for (int i = 0; i < 10; i++) {
            check.due(call + ": BITS of PLACE " + i, x.bits(i), i == to ? bits : want[i]);
        }
        for (int i = 0; i < 4; i++) {
            check.due(call + ": shift " + i, x.shift(i), want[10 + i]);
        }
        oneAct(call, x);
    }

    /** One ACT can be UNDONE, and all is as it was then. */
    void oneAct(String call, TriSplits x) {
        check.due(call + ": is one ACT", x.count(1), 1);
        check.due(call + ": is UNDONE", x.undo(), 0);
        same(call + ": UNDONE", Whole.behind(x), Whole.behind(Whole.still()));
    }

    void close() {
        check.close();
    }
}
