/** Promises 17 to 22, 31, 42 and 50: the REGISTER, UNDONE and KEPT, the shortest rule, count. */
public final class RegisterTest {
    private static final Check CHECK = new Check("RegisterTest");

    private static void register() {
        TriSplits x = new TriSplits();
        x.put(0, 11);
        x.put(1, 10);
        x.put(2, 1);
        x.put(4, 4294967295L);
        x.put(5, 3);
        CHECK.due("shift ahead", x.shift(1), -2);
        CHECK.due("shift of nothing, ahead", x.shift(4), -1);
        CHECK.due("no PLACE", x.register(10, 0), -1);
        CHECK.due("no PLACE", x.register(-1, 0), -1);
        CHECK.due("state -1", x.register(0, -1), -1);
        CHECK.due("state 8", x.register(0, 8), -1);
        CHECK.due("state too high, no such POLY", x.register(1, 2147483648L), -1);
        CHECK.due("no such POLY", x.register(1, 0), -2);
        CHECK.due("no such POLY, whatever the state", x.register(1, 2147483647L), -2);
        CHECK.due("1", x.register(2, 0), -2);
        CHECK.due("0", x.register(3, 0), -2);
        CHECK.due("ACTS", x.count(1), 5);
        CHECK.due("none yet", x.shift(0), -2);
        CHECK.due("state 7", x.register(0, 7), 3);
        CHECK.due("shift 0", x.shift(0), 3);
        CHECK.due("shift 1", x.shift(1), 7);
        CHECK.due("shift 2", x.shift(2), 7);
        CHECK.due("shift 3", x.shift(3), 0);
        CHECK.due("shift 4", x.shift(4), -1);
        CHECK.due("shift -1", x.shift(-1), -1);
        CHECK.due("DEGREE 31", x.register(4, 2147483647L), 31);
        CHECK.due("shift 1", x.shift(1), 2147483647L);
        CHECK.due("shift 2", x.shift(2), 1);
        CHECK.due("DEGREE 31", x.register(4, 1), 31);
        CHECK.due("shift 2", x.shift(2), 32);
        CHECK.due("DEGREE 1", x.register(5, 1), 1);
        CHECK.due("shift 2", x.shift(2), 1);
        CHECK.due("state 2", x.register(5, 2), -1);
        CHECK.due("state 0", x.register(0, 0), 3);
        CHECK.due("shift 2", x.shift(2), 1);
    }

    private static void stepsAndJumps() {
        TriSplits x = new TriSplits();
        CHECK.due("step ahead", x.step(1), -2);
        CHECK.due("jump ahead", x.jump(1), -2);
        CHECK.due("step 0 ahead", x.step(0), -1);
        CHECK.due("jump 0 ahead", x.jump(0), -1);
        x.put(0, 11);
        x.register(0, 1);
        x.put(0, 0);
        // x^3+x+1: s(t+3) = s(t+1) + s(t), from 1 0 0 on: 1 0 0 1 0 1 1
        CHECK.due("step 1", x.step(1), 1);
        CHECK.due("state", x.shift(1), 4);
        CHECK.due("step 7", x.step(7), 0b1110100);
        CHECK.due("state", x.shift(1), 4);
        CHECK.due("gone", x.shift(3), 8);
        CHECK.due("step 60", x.step(60), 0x74e9d3a74e9d3a74L & (1L << 60) - 1);
        CHECK.due("gone", x.shift(3), 68);
        CHECK.due("step 0", x.step(0), -1);
        CHECK.due("step -1", x.step(-1), -1);
        CHECK.due("step 61", x.step(61), -1);
        CHECK.due("jump 0", x.jump(0), -1);
        CHECK.due("jump -1", x.jump(-1), -1);
        CHECK.due("jump too far", x.jump(1000000001), -1);
        CHECK.due("gone", x.shift(3), 68);
        CHECK.due("jump back to the first", x.jump(2), 1);
        CHECK.due("jump 3", x.jump(3), 5);
        CHECK.due("jump 1000000000", x.jump(1000000000), 2);
        CHECK.due("gone", x.shift(3), 1000000073L);
        for (int i = 0; i < 4; i++) {
            x.jump(1000000000);
        }
        CHECK.due("gone", x.shift(3), 5000000073L);
        CHECK.due("undo", x.undo(), 9);
        CHECK.due("gone", x.shift(3), 4000000073L);
    }

    /** A jump is as many STEPS; the period is the first state that comes again. */
    private static void jumpsAreSteps() {
        long[] rules = {7, 11, 19, 21, 51, 85, 283, 1023, 65581, 4294967295L, 2147483657L};
        for (long rule : rules) {
            TriSplits x = new TriSplits();
            x.put(0, rule);
            long state = 5 & (1L << x.poly(0, 0)) - 1;
            x.register(0, state);
            TriSplits y = new TriSplits();
            y.put(0, rule);
            y.register(0, state);
            for (int n = 1; n < 60; n += 7) {
                x.step(n);
                CHECK.due("jump " + n + " by " + rule, y.jump(n), x.shift(1));
            }
            long period = y.shift(2);
            CHECK.due("period of the other", x.shift(2), period);
            long now = x.shift(1);
            int top = x.poly(0, 0) - 1;
            long walked = now;
            for (int i = 1; i <= Math.min(period, 100000); i++) {
                walked = walked >> 1 | (Long.bitCount(walked & rule) & 1L) << top;
                if (walked == now) {
                    CHECK.due("the state is back by " + rule, i, period);
                }
            }
            CHECK.due("it is back at last by " + rule, period <= 100000 && walked != now ? 0 : 1, 1);
        }
    }

    private static void undone() {
        TriSplits x = new TriSplits();
        CHECK.due("undo none", x.undo(), -1);
        for (int i = 1; i <= 12; i++) {
            x.put(0, i);
        }
        CHECK.due("ACTS", x.count(1), 10);
        for (int i = 9; i >= 0; i--) {
            CHECK.due("undo", x.undo(), i);
            CHECK.due("bits", x.bits(0), i + 2);
        }
        CHECK.due("undo none", x.undo(), -1);
        CHECK.due("bits", x.bits(0), 2);
        Check.run(x, "0=tri 4 1;1=x;2=1");
        x.register(0, 9);
        x.step(5);
        x.jump(3);
        CHECK.due("ACTS", x.count(1), 4);
        CHECK.due("faults are no ACTS", Check.run(x, "0=y"), -19);
        x.divide(0, 9, 0);
        CHECK.due("ACTS", x.count(1), 4);
        CHECK.due("undo of jump", x.undo(), 3);
        CHECK.due("gone", x.shift(3), 5);
        CHECK.due("undo of step", x.undo(), 2);
        CHECK.due("state", x.shift(1), 9);
        CHECK.due("gone", x.shift(3), 0);
        CHECK.due("undo of register", x.undo(), 1);
        CHECK.due("shift", x.shift(0), -2);
        CHECK.due("undo of run", x.undo(), 0);
        CHECK.due("bits", x.bits(0), 2);
        CHECK.due("bits", x.bits(2), 0);
    }

    private static void kept() {
        TriSplits x = new TriSplits();
        CHECK.due("keep 2", x.keep(2), -1);
        CHECK.due("keep -1", x.keep(-1), -1);
        CHECK.due("back 2", x.back(2), -1);
        CHECK.due("back -1", x.back(-1), -1);
        CHECK.due("back 1", x.back(1), -2);
        CHECK.due("kept", x.count(3), 0);
        x.put(0, 11);
        x.register(0, 6);
        x.step(2);
        CHECK.due("keep 1", x.keep(1), 1);
        CHECK.due("kept", x.count(3), 2);
        CHECK.due("ACTS", x.count(1), 3);
        CHECK.due("back 0", x.back(0), -2);
        CHECK.due("ACTS", x.count(1), 3);
        long state = x.shift(1);
        x.put(3, 5);
        x.put(0, 1);
        x.step(1);
        Check.feed(x, "0=x");
        CHECK.due("keep 0", x.keep(0), 1);
        CHECK.due("kept", x.count(3), 3);
        CHECK.due("back 1", x.back(1), 1);
        CHECK.due("bits 0", x.bits(0), 11);
        CHECK.due("bits 3", x.bits(3), 0);
        CHECK.due("state", x.shift(1), state);
        CHECK.due("gone", x.shift(3), 2);
        CHECK.due("ACTS", x.count(1), 0);
        CHECK.due("undo", x.undo(), -1);
        CHECK.due("TAPE stays", x.count(2), 3);
        CHECK.due("SHELVES stay", x.count(3), 3);
        CHECK.due("back 0", x.back(0), 1);
        CHECK.due("bits 3", x.bits(3), 5);
        CHECK.due("gone", x.shift(3), 3);
        CHECK.due("back 0 again", x.back(0), 1);
        x.put(3, 9);
        CHECK.due("keep over", x.keep(0), 1);
        x.put(3, 10);
        CHECK.due("undo", x.undo(), 1);
        CHECK.due("back 0", x.back(0), 1);
        CHECK.due("bits 3", x.bits(3), 9);
    }

    /** fault() tells of the latest run(), whatever was UNDONE or taken back since. */
    private static void faultsStay() {
        TriSplits x = new TriSplits();
        x.keep(0);
        x.put(0, 1);
        CHECK.due("run", Check.run(x, "0=(y"), -2 - 25);
        x.undo();
        CHECK.due("fault behind undo", x.fault(0), 25);
        x.back(0);
        CHECK.due("fault behind back", x.fault(0), 25);
        CHECK.due("open behind back", x.fault(1), 1);
        CHECK.due("innermost behind back", x.fault(2), 2);
        Check.run(x, "0=x");
        x.undo();
        CHECK.due("fault behind a run UNDONE", x.fault(0), -1);
    }

    private static void shortest() {
        TriSplits x = new TriSplits();
        CHECK.due("zeros", x.shortest(0, 10, 0), 0);
        CHECK.due("zeros", x.shortest(0, 10, 1), 1);
        CHECK.due("ones", x.shortest(1023, 10, 0), 1);
        CHECK.due("ones", x.shortest(1023, 10, 1), 3);
        CHECK.due("one bit 1", x.shortest(1, 1, 0), 1);
        CHECK.due("one bit 1", x.shortest(1, 1, 1), -2);
        CHECK.due("one bit 0", x.shortest(0, 1, 0), 0);
        CHECK.due("1 ahead of zeros", x.shortest(1, 2, 0), 1);
        CHECK.due("1 ahead of zeros: x", x.shortest(1, 2, 1), 2);
        CHECK.due("1 behind zeros", x.shortest(512, 10, 0), 10);
        CHECK.due("1 behind zeros", x.shortest(512, 10, 1), -2);
        CHECK.due("1 at the 60th", x.shortest(1L << 59, 60, 0), 60);
        CHECK.due("by x^3+x+1", x.shortest(0b1110100 >> 1 | 1 << 6, 7, 0), 4);
        CHECK.due("by x^3+x+1, six", x.shortest(0b101001, 6, 0), 3);
        CHECK.due("by x^3+x+1, six", x.shortest(0b101001, 6, 1), 11);
        CHECK.due("by x^3+x+1, five", x.shortest(0b01001, 5, 1), -2);
        CHECK.due("n 0", x.shortest(0, 0, 0), -1);
        CHECK.due("n 61", x.shortest(0, 61, 0), -1);
        CHECK.due("others", x.shortest(8, 3, 0), -1);
        CHECK.due("below 0", x.shortest(-1, 60, 0), -1);
        CHECK.due("what 2", x.shortest(0, 3, 2), -1);
        CHECK.due("what -1", x.shortest(0, 3, -1), -1);
        // what a REGISTER gives out leads back to its rule
        long[] rules = {7, 11, 37, 283, 65581, 1073741907};
        for (long rule : rules) {
            x.put(0, rule);
            int n = x.register(0, 1);
            long out = x.step(60);
            if (x.poly(0, 4) == 1) {
                CHECK.due("L of " + rule, x.shortest(out, 60, 0), n);
                CHECK.due("rule of " + rule, x.shortest(out, 60, 1), rule);
            }
        }
    }

    private static void count() {
        TriSplits x = new TriSplits();
        x.put(0, 7);
        x.put(3, 1);
        x.put(9, 2);
        x.put(5, 5);
        CHECK.due("count 0", x.count(0), 0b1000101001);
        CHECK.due("count 1", x.count(1), 4);
        CHECK.due("count 2", x.count(2), 0);
        CHECK.due("count 3", x.count(3), 0);
        CHECK.due("count 4", x.count(4), 0b1000000001);
        CHECK.due("count 5", x.count(5), 7);
        CHECK.due("count 6", x.count(6), -1);
        CHECK.due("count -1", x.count(-1), -1);
        x.feed(0, 0, 0, 0, 0);
        CHECK.due("count 2", x.count(2), 20);
        for (int i = 0; i < 10; i++) {
            x.put(i, 4294967295L);
        }
        CHECK.due("count 5", x.count(5), 320);
    }

    public static void main(String[] args) {
        register();
        stepsAndJumps();
        jumpsAreSteps();
        undone();
        kept();
        faultsStay();
        shortest();
        count();
        CHECK.close();
    }
}
