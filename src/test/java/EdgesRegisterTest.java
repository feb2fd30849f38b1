/** The edges that promises 17 to 22, 31, 42 and 50 name: the REGISTER, UNDONE, KEPT, the shortest rule, count. */
public final class EdgesRegisterTest {
    private static final Edges EDGES = new Edges("EdgesRegisterTest");
    private static final int[] NO_PLACES = {-1, 10, -2, 11, Integer.MIN_VALUE, Integer.MAX_VALUE};
    private static final long MOST_STATE = 2147483647L;
    private static final int ZERO = 3;
    private static final int ONE = 4;
    private static final int HIGHEST = 5;

    // ---- what the tests below share

    private static TriSplits withRegister(long rule, long state) {
        TriSplits x = Whole.filled();
        x.put(9, rule);
        EDGES.due("register by " + rule + " with " + state, x.register(9, state), SlowTriSplits.deg(rule));
        return x;
    }

    /** A REGISTER is told: n, its state, no STEPS gone, and one ACT. */
    private static void tells(int place, long state) {
        TriSplits x = Whole.still();
        String call = "register " + place + " " + state;
        int n = SlowTriSplits.deg(Whole.POLYS[place]);
        EDGES.due(call, x.register(place, state), n);
        EDGES.due(call + ": n", x.shift(0), n);
        EDGES.due(call + ": state", x.shift(1), state);
        EDGES.due(call + ": STEPS gone", x.shift(3), 0);
        EDGES.due(call + ": PLACE", x.bits(place), Whole.POLYS[place]);
        EDGES.oneAct(call, x);
    }

    // ---- promise 17

    /** "with a state (0 to 2147483647, and below 2 to the n)". */
    private static void statesTaken() {
        for (long state = 0; state < 8; state++) {
            tells(0, state);
        }
        tells(8, 0);
        tells(8, 1);
        tells(1, 15);
        tells(HIGHEST, 0);
        tells(HIGHEST, MOST_STATE);
        tells(7, MOST_STATE);
        for (int n = 1; n <= 31; n++) {
            TriSplits x = new TriSplits();
            x.put(0, 1L << n | 1);
            EDGES.due("state most of " + n, x.register(0, (1L << n) - 1), n);
            EDGES.due("state above of " + n, x.register(0, 1L << n), -1);
            EDGES.due("its state", x.shift(1), (1L << n) - 1);
            EDGES.due("ACTS", x.count(1), 2);
        }
    }

    /** "NONE, and nothing happens, for others". */
    private static void statesRefused() {
        long[] never = {-1, MOST_STATE + 1, MOST_STATE + 2, 4294967296L, Long.MIN_VALUE, Long.MAX_VALUE};
        for (int place = 0; place <= 9; place++) {
            int by = place;
            for (long state : never) {
                EDGES.nothing("register " + place + " " + state, -1, x -> x.register(by, state));
            }
        }
        EDGES.nothing("state 8 by DEGREE 3", -1, x -> x.register(0, 8));
        EDGES.nothing("state 16 by DEGREE 4", -1, x -> x.register(1, 16));
        EDGES.nothing("state 2 by DEGREE 1", -1, x -> x.register(8, 2));
        EDGES.nothing("state most by DEGREE 4", -1, x -> x.register(9, MOST_STATE));
        for (int none : NO_PLACES) {
            EDGES.nothing("register by PLACE " + none, -1, x -> x.register(none, 0));
            EDGES.nothing("register by PLACE " + none + ", state -1", -1, x -> x.register(none, -1));
        }
        EDGES.nothing("of a new object, no PLACE", -1, TriSplits::new, x -> x.register(10, 0));
    }

    /** "-2: the POLY is no such one (whatever the state is, up to 2147483647)"; "(DEGREE n 1 and more, ..)". */
    private static void noSuchRule() {
        int[] places = {ZERO, ONE, 2, 6};
        long[] states = {0, 1, 2, 3, 4, MOST_STATE - 1, MOST_STATE};
        for (int place : places) {
            for (long state : states) {
                EDGES.nothing("register " + place + " " + state, -2, x -> x.register(place, state));
            }
        }
        EDGES.nothing("of a new object", -2, TriSplits::new, x -> x.register(0, MOST_STATE));
        EDGES.nothing("of a new object", -1, TriSplits::new, x -> x.register(0, MOST_STATE + 1));
    }

    /** The REGISTER keeps its rule when the PLACE gets another POLY; a REGISTER told anew forgets the STEPS. */
    private static void ruleStays() {
        TriSplits x = withRegister(11, 1);
        x.put(9, 0);
        EDGES.due("n", x.shift(0), 3);
        EDGES.due("seven STEPS", x.step(7), 0b1101001);
        EDGES.due("STEPS gone", x.shift(3), 7);
        x.put(9, 19);
        x.register(9, 5);
        EDGES.due("STEPS gone of the next one", x.shift(3), 0);
        EDGES.due("n of the next one", x.shift(0), 4);
    }

    // ---- promise 18

    /** "n STEPS (1 to 60) .. what comes out, the first the lowest bit". */
    private static void stepsTaken() {
        for (int n = 1; n <= 60; n++) {
            int steps = n;
            TriSplits x = withRegister(2147483657L, 1234567890);
            long state = 1234567890;
            long out = 0;
            for (int i = 0; i < n; i++) {
                out |= (state & 1) << i;
                state = state >> 1 | (state ^ state >> 3) << 30 & 1L << 30;
            }
            EDGES.due("step " + n, x.step(steps), out);
            EDGES.due("state behind " + n, x.shift(1), state);
            EDGES.due("STEPS gone behind " + n, x.shift(3), n);
        }
        EDGES.due("sixty ones", withRegister(3, 1).step(60), (1L << 60) - 1);
        EDGES.due("sixty zeros", withRegister(3, 0).step(60), 0);
        TriSplits x = Whole.still();
        x.step(60);
        EDGES.oneAct("step 60", x);
        TriSplits y = Whole.still();
        y.step(1);
        EDGES.oneAct("step 1", y);
    }

    /** "-1, and nothing happens, for others; -2: there is none." NONE is ahead of -2. */
    private static void stepsRefused() {
        int[] wrong = {0, 61, -1, 62, 64, Integer.MIN_VALUE, Integer.MAX_VALUE};
        for (int n : wrong) {
            EDGES.nothing("step " + n, -1, x -> x.step(n));
            EDGES.nothing("step " + n + " without REGISTER", -1, TriSplits::new, x -> x.step(n));
        }
        EDGES.nothing("step 1 without REGISTER", -2, TriSplits::new, x -> x.step(1));
        EDGES.nothing("step 60 without REGISTER", -2, TriSplits::new, x -> x.step(60));
    }

    // ---- promise 19

    /** "goes n (1 to 1000000000) STEPS on: its state". */
    private static void jumpsTaken() {
        for (int n = 1; n <= 60; n++) {
            int far = n;
            TriSplits x = withRegister(4294967295L, 87654321);
            TriSplits y = withRegister(4294967295L, 87654321);
            x.step(far);
            EDGES.due("jump " + n, y.jump(far), x.shift(1));
            EDGES.due("STEPS gone", y.shift(3), n);
        }
        TriSplits x = withRegister(11, 4);
        EDGES.due("1000000000 is 6 modulo 7", x.jump(1000000000), withRegister(11, 4).jump(6));
        EDGES.due("STEPS gone", x.shift(3), 1000000000);
        x.jump(1000000000);
        x.jump(1000000000);
        EDGES.due("STEPS gone, above 2147483647", x.shift(3), 3000000000L);
        EDGES.due("the state 0 stays", withRegister(19, 0).jump(999999999), 0);
        EDGES.due("DEGREE 1", withRegister(3, 1).jump(1000000000), 1);
        TriSplits y = Whole.still();
        y.jump(1000000000);
        EDGES.oneAct("jump 1000000000", y);
        TriSplits z = Whole.still();
        z.jump(1);
        EDGES.oneAct("jump 1", z);
    }

    private static void jumpsRefused() {
        int[] wrong = {0, 1000000001, -1, Integer.MIN_VALUE, Integer.MAX_VALUE};
        for (int n : wrong) {
            EDGES.nothing("jump " + n, -1, x -> x.jump(n));
            EDGES.nothing("jump " + n + " without REGISTER", -1, TriSplits::new, x -> x.jump(n));
        }
        EDGES.nothing("jump 1 without REGISTER", -2, TriSplits::new, x -> x.jump(1));
        EDGES.nothing("jump 1000000000 without REGISTER", -2, TriSplits::new, x -> x.jump(1000000000));
    }

    // ---- promise 20

    /** "The last 10 can be UNDONE, the last first"; "NONE, and nothing happens, if none can". */
    private static void lastTenUndone() {
        for (int acts = 0; acts <= 25; acts++) {
            TriSplits x = new TriSplits();
            for (int i = 1; i <= acts; i++) {
                x.put(0, i);
            }
            int can = Math.min(acts, 10);
            EDGES.due("can be UNDONE of " + acts, x.count(1), can);
            for (int left = can - 1; left >= 0; left--) {
                EDGES.due("undo of " + acts, x.undo(), left);
                EDGES.due("how many more", x.count(1), left);
                EDGES.due("PLACE 0", x.bits(0), acts - can + left);
            }
            EDGES.due("none can", x.undo(), -1);
            EDGES.due("none can", x.undo(), -1);
            EDGES.due("PLACE 0 stays", x.bits(0), acts - can);
            EDGES.due("an ACT behind it", x.put(0, 64), 6);
            EDGES.due("it can be UNDONE", x.undo(), 0);
            EDGES.due("PLACE 0 as it was", x.bits(0), acts - can);
        }
        EDGES.nothing("undo behind back", -1, Whole::still, x -> x.undo());
    }

    /** ACTS behind an undo take the place of those that are UNDONE. */
    private static void actsBehindUndo() {
        TriSplits x = new TriSplits();
        for (int i = 1; i <= 12; i++) {
            x.put(0, i);
        }
        x.undo();
        x.undo();
        x.put(0, 100);
        EDGES.due("nine ACTS", x.count(1), 9);
        x.put(0, 101);
        x.put(0, 102);
        EDGES.due("ten ACTS", x.count(1), 10);
        int[] due = {101, 100, 10, 9, 8, 7, 6, 5, 4, 3};
        for (int i = 0; i < due.length; i++) {
            EDGES.due("undo", x.undo(), 9 - i);
            EDGES.due("PLACE 0", x.bits(0), due[i]);
        }
        EDGES.due("none can", x.undo(), -1);
    }

    /** "ACTS: all from run() to jump()": each is one; feed, end, undo, keep, back and what asks are none. */
    private static void whatIsAnAct() {
        TriSplits x = Whole.still();
        x.end(0);
        Whole.Call[] acts = {y -> Check.run(y, "5=x"), y -> y.put(5, 3), y -> y.add(0, 1, 5), y -> y.multiply(0, 1, 5), y -> y.divide(1, 0, 5),
            y -> y.rest(1, 0, 5), y -> y.common(1, 0, 5), y -> y.power(0, 3, 1, 5), y -> y.moved(0, 5), y -> y.inside(0, 1, 1, 5)};
        Whole.Call[] more = {y -> y.inverse(0, 1, 5), y -> y.rise(0, 2, 5), y -> y.register(0, 3), y -> y.step(2), y -> y.jump(2)};
        for (int i = 0; i < acts.length; i++) {
            acts[i].on(x);
            EDGES.due("ACTS behind the one " + i, x.count(1), i + 1);
        }
        TriSplits z = Whole.still();
        for (int i = 0; i < more.length; i++) {
            more[i].on(z);
            EDGES.due("ACTS behind the other one " + i, z.count(1), i + 1);
        }
        TriSplits w = Whole.still();
        w.feed(0, 0, 0, 0, 0);
        w.end(5);
        w.keep(0);
        EDGES.due("no ACTS", w.count(1), 0);
        EDGES.due("none can", w.undo(), -1);
        w.step(1);
        w.keep(1);
        w.end(0);
        EDGES.due("one ACT", w.count(1), 1);
        EDGES.due("undo is none", w.undo(), 0);
        EDGES.due("and nothing is done again by it", w.undo(), -1);
        EDGES.due("the TAPE is as it is", w.count(2), 0);
    }

    // ---- promises 21 and 22

    /** "NONE, and nothing happens, without that SHELF"; "SHELVES 0, 1". */
    private static void noShelf() {
        int[] wrong = {-1, 2, -2, 3, 32, Integer.MIN_VALUE, Integer.MAX_VALUE};
        for (int shelf : wrong) {
            EDGES.nothing("keep " + shelf, -1, x -> x.keep(shelf));
            EDGES.nothing("back " + shelf, -1, x -> x.back(shelf));
            EDGES.nothing("keep " + shelf + " of a new object", -1, TriSplits::new, x -> x.keep(shelf));
            EDGES.nothing("back " + shelf + " of a new object", -1, TriSplits::new, x -> x.back(shelf));
        }
    }

    private static TriSplits keptOn(int shelf) {
        TriSplits x = new TriSplits();
        x.put(0, 11);
        x.register(0, 5);
        x.keep(shelf);
        x.step(4);
        return x;
    }

    /** "-2: nothing is KEPT": one SHELF is apart from the other one. */
    private static void emptyShelf() {
        for (int shelf = 0; shelf <= 1; shelf++) {
            int kept = shelf;
            int empty = 1 - shelf;
            EDGES.nothing("back " + empty, -2, () -> keptOn(kept), x -> x.back(empty));
            TriSplits x = keptOn(kept);
            EDGES.due("SHELVES", x.count(3), 1 << kept);
            EDGES.due("back " + kept, x.back(kept), 1);
            EDGES.due("still empty", x.back(empty), -2);
            EDGES.due("SHELVES", x.count(3), 1 << kept);
            EDGES.due("keep", x.keep(empty), 1);
            EDGES.due("SHELVES", x.count(3), 3);
            EDGES.due("back", x.back(empty), 1);
        }
    }

    /** "All is KEPT on a SHELF: 1": also a new object's nothing, and no REGISTER. */
    private static void allIsKept() {
        TriSplits x = new TriSplits();
        EDGES.due("keep of a new object", x.keep(0), 1);
        EDGES.due("SHELVES", x.count(3), 1);
        x.put(9, 11);
        x.register(9, 7);
        EDGES.due("back", x.back(0), 1);
        EDGES.due("PLACE 9", x.bits(9), 0);
        EDGES.due("no REGISTER", x.shift(0), -2);
        EDGES.due("none can be UNDONE", x.undo(), -1);
        for (int shelf = 0; shelf <= 1; shelf++) {
            TriSplits y = Whole.filled();
            long[] want = Whole.now(y);
            EDGES.due("keep", y.keep(shelf), 1);
            EDGES.same("keep changes nothing but the SHELF", Whole.now(y), want);
            Check.run(y, ";");
            y.put(4, 77);
            y.jump(99);
            y.register(0, 1);
            EDGES.due("back", y.back(shelf), 1);
            want[15] = 0;
            want[16] = 0;
            EDGES.same("as it was KEPT, none can be UNDONE", Whole.now(y), want);
        }
    }

    /** "SHELVES 0, 1: all but TAPE, SHELVES": back leaves them; "nothing can be UNDONE then". */
    private static void tapeAndShelvesStay() {
        TriSplits x = Whole.filled();
        x.keep(0);
        x.end(3);
        x.put(0, 77);
        x.keep(1);
        EDGES.due("back", x.back(0), 1);
        EDGES.due("TAPE", x.count(2), 3);
        EDGES.due("SHELVES", x.count(3), 3);
        EDGES.due("ACTS", x.count(1), 0);
        EDGES.due("PLACE 0", x.bits(0), 11);
        EDGES.due("back to the other one", x.back(1), 1);
        EDGES.due("PLACE 0 of the other one", x.bits(0), 77);
        x.put(0, 78);
        EDGES.due("what is KEPT stays so", x.back(1), 1);
        EDGES.due("PLACE 0", x.bits(0), 77);
        x.put(0, 79);
        x.undo();
        EDGES.due("undo leaves the SHELVES", x.back(0), 1);
        EDGES.due("PLACE 0", x.bits(0), 11);
        x.keep(1);
        EDGES.due("KEPT over", x.back(1), 1);
        EDGES.due("PLACE 0", x.bits(0), 11);
        Check.run(x, "0=1");
        EDGES.due("run behind back", x.bits(0), 11);
    }

    /** An ACT ahead of back cannot be UNDONE by ACTS behind it. */
    private static void actsBehindBack() {
        TriSplits x = Whole.filled();
        x.back(0);
        for (int i = 1; i <= 3; i++) {
            x.put(0, i);
            EDGES.due("ACTS", x.count(1), i);
        }
        for (int i = 2; i >= 0; i--) {
            EDGES.due("undo", x.undo(), i);
        }
        EDGES.due("none can", x.undo(), -1);
        EDGES.due("PLACE 0 as it was KEPT", x.bits(0), 7);
    }

    // ---- promise 31

    private static void shortestIs(long bits, int n, long length, long rule) {
        EDGES.nothing("shortest of " + bits + " " + n, length, x -> x.shortest(bits, n, 0));
        EDGES.nothing("shortest rule of " + bits + " " + n, rule, x -> x.shortest(bits, n, 1));
    }

    /** "Of n bits (1 to 60; the first the lowest, no others)"; "NONE without these". */
    private static void bitsOfShortest() {
        int[] lengths = {0, 61, -1, 64, Integer.MIN_VALUE, Integer.MAX_VALUE};
        for (int n : lengths) {
            EDGES.nothing("0 of " + n + " bits", -1, x -> x.shortest(0, n, 0));
            EDGES.nothing("1 of " + n + " bits", -1, x -> x.shortest(1, n, 1));
        }
        for (int n = 1; n <= 60; n++) {
            int size = n;
            long above = 1L << n;
            SlowTriSplits slow = new SlowTriSplits();
            TriSplits x = new TriSplits();
            EDGES.due("all ones of " + n, x.shortest(above - 1, size, 0), 1);
            EDGES.due("the last of " + n, x.shortest(above >> 1, size, 0), n);
            EDGES.due("the first of " + n, x.shortest(1, size, 0), 1);
            EDGES.due("a bit above " + n, x.shortest(above, size, 0), -1);
            EDGES.due("all ones and a bit above " + n, x.shortest(2 * above - 1, size, 1), -1);
            EDGES.due("bits below 0 of " + n, x.shortest(-1, size, 0), -1);
            EDGES.due("the lowest number of " + n, x.shortest(Long.MIN_VALUE, size, 0), -1);
            long mixed = 0x6a09e667f3bcc90L & above - 1;
            EDGES.due("mixed ones of " + n, x.shortest(mixed, size, 0), slow.shortest(mixed, size, 0));
            EDGES.due("mixed ones of " + n, x.shortest(mixed, size, 1), slow.shortest(mixed, size, 1));
        }
        int[] others = {-1, 2, 3, Integer.MIN_VALUE, Integer.MAX_VALUE};
        for (int what : others) {
            EDGES.nothing("shortest, what " + what, -1, x -> x.shortest(0, 5, what));
        }
    }

    /** "the least L (0 and more)"; "its coefficient of x to the 0 may be 0"; "-2 of 1: 2 L is above n". */
    private static void lengthsOfShortest() {
        shortestIs(0, 1, 0, 1);
        shortestIs(0, 60, 0, 1);
        shortestIs(1, 1, 1, -2);
        shortestIs(1, 2, 1, 2);
        shortestIs(1, 60, 1, 2);
        shortestIs(3, 2, 1, 3);
        shortestIs((1L << 60) - 1, 60, 1, 3);
        shortestIs(2, 2, 2, -2);
        shortestIs(2, 3, 2, -2);
        shortestIs(2, 4, 2, 4);
        shortestIs(10, 4, 2, 5);
        shortestIs(1L << 59, 60, 60, -2);
        shortestIs(1L << 29, 60, 30, 1L << 30);
        shortestIs(1L << 29, 59, 30, -2);
        shortestIs(1L << 30, 60, 31, -2);
        shortestIs(0b101001, 6, 3, 11);
        shortestIs(0b01001, 5, 3, -2);
    }

    // ---- promise 42

    /** "-2 without one; NONE for others", NONE ahead. */
    private static void shiftEdges() {
        int[] others = {-1, 4, -2, 5, Integer.MIN_VALUE, Integer.MAX_VALUE};
        for (int what : others) {
            EDGES.nothing("shift " + what, -1, x -> x.shift(what));
            EDGES.nothing("shift " + what + " without REGISTER", -1, TriSplits::new, x -> x.shift(what));
        }
        for (int what = 0; what <= 3; what++) {
            int w = what;
            EDGES.nothing("shift " + what + " without REGISTER", -2, TriSplits::new, x -> x.shift(w));
        }
        EDGES.nothing("shift 0", 4, x -> x.shift(0));
        EDGES.nothing("shift 3", 3, x -> x.shift(3));
    }

    /** "the least number of STEPS (above 0) behind which its state is as it is now". */
    private static void periods() {
        long[][] due = {{3, 0, 1}, {3, 1, 1}, {5, 0, 1}, {5, 3, 1}, {5, 1, 2}, {7, 0, 1}, {7, 1, 3}, {11, 5, 7}, {21, 1, 6}, {21, 3, 6}, {21, 6, 3},
            {31, 1, 5}, {9, 7, 1}, {9, 1, 3}, {85, 1, 8}, {2147483657L, 0, 1}, {2147483657L, 1, 2147483647L}, {2147483657L, 2147483647L, 2147483647L},
            {4294967295L, 2147483647L, 1}, {4294967295L, 1, 32}, {2147483649L, 2147483647L, 1}, {2147483649L, 1, 31}};
        for (long[] d : due) {
            EDGES.due("period of " + d[1] + " by " + d[0], withRegister(d[0], d[1]).shift(2), d[2]);
        }
        SlowTriSplits slow = new SlowTriSplits();
        for (long rule = 3; rule < 64; rule += 2) {
            for (long state = 0; state < 1L << SlowTriSplits.deg(rule); state++) {
                slow.put(0, rule);
                slow.register(0, state);
                EDGES.due("period of " + state + " by " + rule, withRegister(rule, state).shift(2), slow.shift(2));
            }
        }
    }

    // ---- promise 50

    /** "NONE for others", and each what at its ends. */
    private static void counts() {
        int[] others = {-1, 6, -2, 7, Integer.MIN_VALUE, Integer.MAX_VALUE};
        for (int what : others) {
            EDGES.nothing("count " + what, -1, x -> x.count(what));
        }
        EDGES.nothing("PLACES that are not 0", 0b1111110111, x -> x.count(0));
        EDGES.nothing("ACTS", 10, x -> x.count(1));
        EDGES.nothing("TAPE", 9, x -> x.count(2));
        EDGES.nothing("SHELVES", 3, x -> x.count(3));
        EDGES.nothing("IRREDUCIBLE ones", 0b0100100111, x -> x.count(4));
        EDGES.nothing("WEIGHTS", 3 + 3 + 1 + 0 + 1 + 3 + 2 + 32 + 2 + 3, x -> x.count(5));
        for (int place = 0; place <= 9; place++) {
            TriSplits x = new TriSplits();
            x.put(place, 1L << 31);
            EDGES.due("PLACE " + place + " alone", x.count(0), 1 << place);
            EDGES.due("it is not IRREDUCIBLE", x.count(4), 0);
            EDGES.due("its WEIGHT", x.count(5), 1);
            x.put(place, 1);
            EDGES.due("1 is not 0", x.count(0), 1 << place);
            EDGES.due("1 is not IRREDUCIBLE", x.count(4), 0);
            x.put(place, 2147483657L);
            EDGES.due("an IRREDUCIBLE one", x.count(4), 1 << place);
            x.put(place, 0);
            EDGES.due("0 again", x.count(0), 0);
            EDGES.due("no WEIGHT", x.count(5), 0);
        }
        TriSplits x = new TriSplits();
        for (int place = 0; place <= 9; place++) {
            x.put(place, 4294967295L);
        }
        EDGES.due("all PLACES", x.count(0), 1023);
        EDGES.due("all WEIGHTS", x.count(5), 320);
        EDGES.due("ACTS", x.count(1), 10);
    }

    public static void main(String[] args) {
        statesTaken();
        statesRefused();
        noSuchRule();
        ruleStays();
        stepsTaken();
        stepsRefused();
        jumpsTaken();
        jumpsRefused();
        lastTenUndone();
        actsBehindUndo();
        whatIsAnAct();
        noShelf();
        emptyShelf();
        allIsKept();
        tapeAndShelvesStay();
        actsBehindBack();
        bitsOfShortest();
        lengthsOfShortest();
        shiftEdges();
        periods();
        counts();
        EDGES.close();
    }
}
