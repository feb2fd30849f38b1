/** The edges that Terms I and promises 1 to 5 name: the TAPE, TEXTS, their FAULTS and what lies WITHIN. */
public final class EdgesTextTest {
    private static final Edges EDGES = new Edges("EdgesTextTest");
    private static final int MISPLACED = 1;
    private static final int BAD_NUMBER = 2;
    private static final int TOO_HIGH = 3;
    private static final int TOO_DEEP = 4;
    private static final int OUTSIDE = -1;

    // ---- what the tests below share

    private static TriSplits emptied() {
        TriSplits x = Whole.still();
        x.end(0);
        return x;
    }

    /** A TEXT that is one: how many STATEMENTS, the BITS of PLACE 5, and that it is one ACT. */
    private static void reads(String text, int statements, long bits) {
        TriSplits x = emptied();
        EDGES.due("run of " + text, Check.run(x, text), statements);
        EDGES.due("PLACE 5 behind " + text, x.bits(5), bits);
        EDGES.same("no FAULT of " + text, Whole.faults(x), new long[] {-1, 0, -1});
        EDGES.due("TAPE behind " + text, x.count(2), 0);
        EDGES.due("one ACT: " + text, x.count(1), 1);
        EDGES.due("UNDONE: " + text, x.undo(), 0);
        EDGES.same("UNDONE: " + text, Whole.behind(x), Whole.behind(emptied()));
    }

    private static void sum(String sum, long bits) {
        reads("5=" + sum, 1, bits);
    }

    /** A TEXT that is none: its FAULT, and nothing happens but for the TAPE. */
    private static void faulty(String text, int place, int code, int within, int innermost) {
        TriSplits x = Whole.filled();
        x.end(0);
        int fault = 8 * place + code;
        EDGES.due("run of " + text, Check.run(x, text), -2 - fault);
        EDGES.same("FAULT of " + text, Whole.faults(x), new long[] {fault, within, innermost});
        TriSplits y = Whole.filled();
        y.end(0);
        EDGES.same("nothing happens by " + text, Whole.behind(x), Whole.behind(y));
    }

    private static void faulty(String text, int place, int code) {
        faulty(text, place, code, 0, OUTSIDE);
    }

    private static String blanks(int n) {
        return " ".repeat(n);
    }

    // ---- promise 1

    /** "All PLACES 0; no REGISTER." And "-2: nothing is KEPT", "NONE .. if none can" be UNDONE. */
    private static void newObject() {
        TriSplits x = new TriSplits();
        long[] due = new long[20];
        for (int i = 10; i < 14; i++) {
            due[i] = -2;
        }
        EDGES.same("a new object", Whole.now(x), due);
        EDGES.same("FAULT ahead of any run", Whole.faults(x), new long[] {-1, 0, -1});
        EDGES.nothing("undo of a new object", -1, TriSplits::new, y -> y.undo());
        EDGES.nothing("back(0) of a new object", -2, TriSplits::new, y -> y.back(0));
        EDGES.nothing("back(1) of a new object", -2, TriSplits::new, y -> y.back(1));
        EDGES.nothing("step of a new object", -2, TriSplits::new, y -> y.step(1));
        EDGES.nothing("jump of a new object", -2, TriSplits::new, y -> y.jump(1));
        EDGES.nothing("end(0) of a new object", 0, TriSplits::new, y -> y.end(0));
        EDGES.nothing("end(1) of a new object", -1, TriSplits::new, y -> y.end(1));
    }

    /** Two objects share nothing. */
    private static void objectsApart() {
        TriSplits x = Whole.filled();
        TriSplits y = new TriSplits();
        EDGES.due("PLACE 0 of another object", y.bits(0), 0);
        EDGES.due("TAPE of another object", y.count(2), 0);
        y.put(0, 9);
        Check.run(y, "1=x;2=y");
        EDGES.due("SHELVES of another object", y.count(3), 0);
        EDGES.same("the first object", Whole.all(x), Whole.all(Whole.filled()));
    }

    // ---- promises 2 and 3

    private static TriSplits withTape(String text) {
        TriSplits x = Whole.filled();
        x.end(0);
        Check.feed(x, text);
        return x;
    }

    /** "NONE, and none comes, if it would have more than 300." */
    private static void feedTo300() {
        TriSplits x = withTape("5=x" + blanks(277));
        EDGES.due("TAPE of 280", x.count(2), 280);
        EDGES.due("feed to 300", x.feed(0x20202020, 0x20202020, 0x20202020, 0x20202020, 0x2b312020), 300);
        EDGES.due("a TEXT of 300", x.run(), 1);
        EDGES.due("its last bytes are read", x.bits(5), 3);
        for (int n = 281; n <= 300; n += n < 283 ? 1 : 17) {
            int size = n;
            String text = "5=x" + blanks(size - 3);
            EDGES.nothing("feed at " + size, -1, () -> withTape(text),
                y -> y.feed(0x2b2b2b2b, 0x2b2b2b2b, 0x2b2b2b2b, 0x2b2b2b2b, 0x2b2b2b2b));
            TriSplits y = withTape(text);
            y.feed(0x2b2b2b2b, 0x2b2b2b2b, 0x2b2b2b2b, 0x2b2b2b2b, 0x2b2b2b2b);
            EDGES.due("none came at " + size, y.run(), 1);
            EDGES.due("none came at " + size, y.bits(5), 2);
        }
    }

    /** "Twenty bytes come behind the TAPE, of each number the highest first: how many it has". */
    private static void feedInOrder() {
        TriSplits x = new TriSplits();
        EDGES.due("feed", x.feed(0x353d785e, 0x33312b78, 0x5e32382b, 0x785e332b, 0x785e322b), 20);
        EDGES.due("feed behind", x.feed(0x31202020, 0x20202020, 0x20202020, 0x20202020, 0x20202020), 40);
        EDGES.due("feed behind", x.feed(0, 0, 0, 0, 0), 60);
        EDGES.due("end", x.end(40), 40);
        EDGES.due("run", x.run(), 1);
        EDGES.due("BITS", x.bits(5), (1L << 31) + (1 << 28) + 13);
        for (int at = 0; at < 20; at++) {
            int[] w = {0x20202020, 0x20202020, 0x20202020, 0x20202020, 0x20202020};
            w[at / 4] ^= 0x04 << (24 - 8 * (at % 4));
            x.feed(w[0], w[1], w[2], w[3], w[4]);
            EDGES.due("a byte at " + at, x.run(), -2 - 8 * at - MISPLACED);
        }
    }

    /** "The TAPE has its first n bytes alone: n; NONE, and nothing happens, if it has not so many, or n is below 0." */
    private static void endOfTape() {
        int has = 9;
        int[] wrong = {has + 1, 300, 301, Integer.MAX_VALUE, -1, -2, Integer.MIN_VALUE};
        for (int n : wrong) {
            EDGES.nothing("end(" + n + ")", -1, x -> x.end(n));
        }
        EDGES.nothing("end of all that it has", has, x -> x.end(has));
        for (int n = 0; n < has; n++) {
            TriSplits x = Whole.filled();
            EDGES.due("end(" + n + ")", x.end(n), n);
            EDGES.due("TAPE behind end(" + n + ")", x.count(2), n);
            EDGES.due("end of more", x.end(n + 1), -1);
            EDGES.due("end is no ACT", x.count(1), 10);
        }
        TriSplits x = Whole.filled();
        x.end(3);
        Check.feed(x, "^31");
        EDGES.due("bytes behind the first three", x.run(), 1);
        EDGES.due("bytes behind the first three", x.bits(7), 1L << 31);
        EDGES.due("end(0) of an empty TAPE", x.end(0), 0);
        EDGES.due("end(1) of an empty TAPE", x.end(1), -1);
        TriSplits y = withTape("5=x" + blanks(297));
        EDGES.due("end(301) of a full TAPE", y.end(301), -1);
        EDGES.due("end(300) of a full TAPE", y.end(300), 300);
    }

    // ---- promise 4

    /** "its STATEMENTS are done (one ACT): how many". */
    private static void howManyStatements() {
        reads("5=x", 1, 2);
        reads("5=x;5=1", 2, 1);
        reads("1=x;5=0;0=1;5=x^2", 4, 4);
        StringBuilder text = new StringBuilder("5=x^31");
        while (text.length() < 298) {
            text.append(";5=1");
        }
        reads(text.toString() + " ", 74, 1);
        TriSplits x = Whole.filled();
        EDGES.due("the eleventh ACT", x.run(), 2);
        EDGES.due("ten can be UNDONE", x.count(1), 10);
        EDGES.due("undo", x.undo(), 9);
        EDGES.due("PLACE 7 as ahead of the TEXT", x.bits(7), 4294967295L);
        EDGES.due("PLACE 8 as ahead of the TEXT", x.bits(8), 3);
    }

    /** "The TAPE, which is empty then, is a TEXT"; an empty one is none: "the text ends (the place behind its last byte)". */
    private static void emptyTexts() {
        faulty("", 0, MISPLACED);
        faulty(" ", 1, MISPLACED);
        faulty(blanks(300), 300, MISPLACED);
        TriSplits x = Whole.filled();
        Check.feed(x, "$");
        EDGES.due("run with a FAULT", x.run(), -2 - 8 * 9 - MISPLACED);
        EDGES.due("the TAPE is empty then", x.count(2), 0);
        EDGES.due("run of the empty one", x.run(), -3);
        EDGES.due("its FAULT", x.fault(0), 1);
    }

    /** "but for the TAPE nothing happens": the STATEMENTS ahead of a FAULT are not done. */
    private static void faultBehindStatements() {
        faulty("0=x;1=x;9=x;5=x;", 16, MISPLACED);
        faulty("0=1;3=x^31 x", 6, TOO_HIGH);
        faulty("0=1;10=x", 4, BAD_NUMBER);
        faulty("0=1;1=p0;2=(((((((", 17, TOO_DEEP, 6, 16);
        faulty("5=x" + blanks(296) + "+", 300, MISPLACED);
        faulty("5=(((((x+" + blanks(290) + "$", 299, MISPLACED, 5, 6);
    }

    // ---- promise 5

    /** "(NONE without, and ahead of any)", "0 without FAULT", "NONE without such a one", "NONE for others". */
    private static void faultsOfTheLatestRun() {
        int[] others = {-1, 3, 4, Integer.MAX_VALUE, Integer.MIN_VALUE};
        for (int what : others) {
            EDGES.nothing("fault(" + what + ")", -1, x -> x.fault(what));
            EDGES.nothing("fault(" + what + ") of a new object", -1, TriSplits::new, x -> x.fault(what));
        }
        EDGES.nothing("fault(0)", 8 * 8 + MISPLACED, x -> x.fault(0));
        EDGES.nothing("fault(1)", 2, x -> x.fault(1));
        EDGES.nothing("fault(2)", 6, x -> x.fault(2));
        EDGES.nothing("fault(0) ahead of any", -1, TriSplits::new, x -> x.fault(0));
        EDGES.nothing("fault(1) ahead of any", 0, TriSplits::new, x -> x.fault(1));
        EDGES.nothing("fault(2) ahead of any", -1, TriSplits::new, x -> x.fault(2));
        TriSplits x = Whole.filled();
        EDGES.due("a run without FAULT", x.run(), 2);
        EDGES.same("no FAULT", Whole.faults(x), new long[] {-1, 0, -1});
        Check.run(x, "0=(((x))");
        EDGES.same("a FAULT within one", Whole.faults(x), new long[] {8 * 8 + 1, 1, 2});
        Check.run(x, "0=((x))$");
        EDGES.same("a FAULT within none", Whole.faults(x), new long[] {8 * 7 + 1, 0, -1});
        Check.run(x, "");
        EDGES.same("FAULT of an empty one", Whole.faults(x), new long[] {1, 0, -1});
    }

    // ---- Terms I: what a TEXT is made of

    /** "PLACES 0 to 9": ahead of = and behind p. */
    private static void placesOfTexts() {
        reads("0=1;5=x", 2, 2);
        reads("9=1;5=x", 2, 2);
        reads("09=x;5=p009", 2, 2);
        faulty("10=x", 0, BAD_NUMBER);
        faulty("5=1; 10=x", 5, BAD_NUMBER);
        faulty("99=x", 0, BAD_NUMBER);
        faulty("4294967296=x", 0, BAD_NUMBER);
        faulty("18446744073709551616=x", 0, BAD_NUMBER);
        faulty("p0=x", 0, MISPLACED);
        faulty("-1=x", 0, MISPLACED);
        sum("p0", 11);
        sum("p9", 21);
        faulty("5=p10", 3, BAD_NUMBER);
        faulty("5=p 99", 4, BAD_NUMBER);
        faulty("5=p4294967297", 3, BAD_NUMBER);
        faulty("5=p-1", 3, MISPLACED);
        faulty("5=p", 3, MISPLACED);
        faulty("5=pp", 2, MISPLACED);
    }

    /** "NUMBER 0 to 31; to the 0: 1". */
    private static void numbersOfPowers() {
        sum("x^0", 1);
        sum("0^0", 1);
        sum("p3^0", 1);
        sum("p5^0", 1);
        sum("(x^31)^0", 1);
        sum("0^1", 0);
        sum("0^31", 0);
        sum("1^31", 1);
        sum("x^1", 2);
        sum("x^31", 1L << 31);
        sum("x^00031", 1L << 31);
        faulty("5=x^32", 4, BAD_NUMBER);
        faulty("5=1^32", 4, BAD_NUMBER);
        faulty("5=0^32", 4, BAD_NUMBER);
        faulty("5=x^ 4294967296", 5, BAD_NUMBER);
        faulty("5=x^-1", 4, MISPLACED);
        faulty("5=x^", 4, MISPLACED);
        faulty("5=x^x", 4, MISPLACED);
        faulty("5=x^(1)", 4, MISPLACED);
        faulty("5=x^2^2", 5, MISPLACED);
    }

    /** "as ONE 0 or 1": "a NUMBER that is one of these". */
    private static void numbersAsOne() {
        sum("0", 0);
        sum("1", 1);
        sum("00", 0);
        sum("001", 1);
        sum("1 1", 1);
        sum("1x0", 0);
        faulty("5=2", 2, BAD_NUMBER);
        faulty("5=9", 2, BAD_NUMBER);
        faulty("5=10", 2, BAD_NUMBER);
        faulty("5=11", 2, BAD_NUMBER);
        faulty("5=x2", 3, BAD_NUMBER);
        faulty("5=x*31", 4, BAD_NUMBER);
        faulty("5=1+ 4294967296", 5, BAD_NUMBER);
    }

    /** "tri: n 2 to 31, k 1 to n less 1"; "TRI n, k .. (n above k above 0)". */
    private static void numbersOfTri() {
        sum("tri 2 1", 7);
        sum("tri 31 1", (1L << 31) + 3);
        sum("tri 31 30", 0xC0000001L);
        sum("tri3 2", 13);
        sum("tri 003 01", 11);
        faulty("5=tri 1 1", 6, BAD_NUMBER);
        faulty("5=tri 1 0", 6, BAD_NUMBER);
        faulty("5=tri 0 1", 6, BAD_NUMBER);
        faulty("5=tri 32 1", 6, BAD_NUMBER);
        faulty("5=tri 32 32", 6, BAD_NUMBER);
        faulty("5=tri 32$", 6, BAD_NUMBER);
        faulty("5=tri 4294967298 1", 6, BAD_NUMBER);
        faulty("5=tri 2 0", 8, BAD_NUMBER);
        faulty("5=tri 2 2", 8, BAD_NUMBER);
        faulty("5=tri 31 0", 9, BAD_NUMBER);
        faulty("5=tri 31 31", 9, BAD_NUMBER);
        faulty("5=tri 31 4294967297", 9, BAD_NUMBER);
        faulty("5=tri", 5, MISPLACED);
        faulty("5=tri 3", 7, MISPLACED);
        faulty("5=tri x", 6, MISPLACED);
        faulty("5=tri 3 x", 8, MISPLACED);
        faulty("5=tri 3;", 7, MISPLACED);
        faulty("5=tri(3 1)", 5, MISPLACED);
        faulty("5=tri 3^2 1", 7, MISPLACED);
    }

    /** "rev: .. (of 0: 0); der: its derivative." Both stand ahead of a ( alone. */
    private static void revAndDer() {
        sum("rev(0)", 0);
        sum("rev(1)", 1);
        sum("rev(x^31)", 1);
        sum("rev(x^31+1)", (1L << 31) + 1);
        sum("rev(p5)", (1L << 31) + (1 << 28) + 1);
        sum("rev(x^2+x)", 3);
        sum("der(0)", 0);
        sum("der(1)", 0);
        sum("der(x)", 1);
        sum("der(x^2)", 0);
        sum("der(x^31)", 1L << 30);
        sum("der(p7)", 0x55555555L);
        sum("rev(x^2+x)^2 x", 10);
        sum("der(x^3)^15 x", 1L << 31);
        faulty("5=rev", 5, MISPLACED);
        faulty("5=rev x", 6, MISPLACED);
        faulty("5=rev 1", 6, MISPLACED);
        faulty("5=rev^2", 5, MISPLACED);
        faulty("5=der", 5, MISPLACED);
        faulty("5=der rev(x)", 6, MISPLACED);
        faulty("5=rev()", 6, MISPLACED, 1, 5);
    }

    /** "p: as it was ahead of the TEXT, or is by a STATEMENT ahead." */
    private static void placesAsTheyAre() {
        reads("5=p0", 1, 11);
        reads("5=p0;0=1", 2, 11);
        reads("0=1;5=p0", 2, 1);
        reads("0=x;0=p0 x;0=p0 x;5=p0", 4, 8);
        sum("p5", 2147483657L);
        sum("p5+x^3", 2147483649L);
        sum("p3", 0);
        reads("5=x;0=p5;5=p0+p5+1", 3, 1);
    }

    /** "WORDS are small letters, NUMBERS digits, as far as they go on"; "blanks (32) stand between as one likes". */
    private static void wordsAndBlanks() {
        sum("x x", 4);
        sum("x1", 2);
        sum("1x", 2);
        sum("x(x)x", 8);
        sum("p0p0", 69);
        sum("p0 1", 11);
        sum("p00", 11);
        sum("tri 3 1x", 22);
        sum("tri 3 1 1", 11);
        sum(" x ^ 3 + tri  3   1 * rev ( x + 1 ) ", 21);
        reads("  5  =  x  ;  5  =  1  ", 2, 1);
        reads(blanks(297) + "5=x", 1, 2);
        reads("5=x" + blanks(297), 1, 2);
        faulty("5=xx", 2, MISPLACED);
        faulty("5=x tri3", 8, MISPLACED);
        faulty("5=xp0", 2, MISPLACED);
        faulty("5=trix 3 1", 2, MISPLACED);
        faulty("5=t ri 3 1", 2, MISPLACED);
        faulty("5=re v(x)", 2, MISPLACED);
        faulty("5=revder(x)", 2, MISPLACED);
        faulty("5=tri 1 2 1", 6, BAD_NUMBER);
        faulty("5=tri 311", 6, BAD_NUMBER);
        faulty("5=tri 31", 8, MISPLACED);
        faulty("5=x^3 1 1 2", 10, BAD_NUMBER);
        faulty("5=\tx", 2, MISPLACED);
        faulty("5=x\n", 3, MISPLACED);
        faulty("5=x!", 3, MISPLACED);
        faulty("5=x\u001f", 3, MISPLACED);
        faulty("5=x\u0000", 3, MISPLACED);
        faulty("5=x\u0080", 3, MISPLACED);
        faulty("5=x\u00a0", 3, MISPLACED);
        faulty("5=x\u00ff", 3, MISPLACED);
        faulty("5=\u00ff", 2, MISPLACED);
        faulty("\u00b5=x", 0, MISPLACED);
    }

    /** The bytes beside digits and small letters are none. */
    private static void besideDigitsAndLetters() {
        faulty("/=x", 0, MISPLACED);
        faulty(":=x", 0, MISPLACED);
        faulty("5=x/", 3, MISPLACED);
        faulty("5=x:", 3, MISPLACED);
        faulty("5=x^3:", 5, MISPLACED);
        faulty("5=x^3/", 5, MISPLACED);
        faulty("5=x`", 3, MISPLACED);
        faulty("5=x{", 3, MISPLACED);
        faulty("5=`", 2, MISPLACED);
        faulty("5={", 2, MISPLACED);
        faulty("5=X", 2, MISPLACED);
        faulty("5=xX", 3, MISPLACED);
        faulty("5=1Z", 3, MISPLACED);
        faulty("5=xa", 2, MISPLACED);
        faulty("5=xz", 2, MISPLACED);
        faulty("5=x a", 4, MISPLACED);
        faulty("5=x z", 4, MISPLACED);
    }

    /** "STATEMENT { ; STATEMENT }", "PRODUCT { + PRODUCT }", "POWER { [ * ] POWER }": none may be missing. */
    private static void partsMissing() {
        faulty("5", 1, MISPLACED);
        faulty("5=", 2, MISPLACED);
        faulty("5= ", 3, MISPLACED);
        faulty("=x", 0, MISPLACED);
        faulty(";5=x", 0, MISPLACED);
        faulty("5=x;", 4, MISPLACED);
        faulty("5=x; ", 5, MISPLACED);
        faulty("5=x;;5=x", 4, MISPLACED);
        faulty("5=;", 2, MISPLACED);
        faulty("5==x", 2, MISPLACED);
        faulty("5=x=x", 3, MISPLACED);
        faulty("5=x 5=x", 4, BAD_NUMBER);
        faulty("5=x 1=x", 5, MISPLACED);
        faulty("5=x,5=x", 3, MISPLACED);
        faulty("5=+x", 2, MISPLACED);
        faulty("5=x+", 4, MISPLACED);
        faulty("5=x+ ", 5, MISPLACED);
        faulty("5=x++x", 4, MISPLACED);
        faulty("5=x+;", 4, MISPLACED);
        faulty("5=*x", 2, MISPLACED);
        faulty("5=x*", 4, MISPLACED);
        faulty("5=x**x", 4, MISPLACED);
        faulty("5=x*+x", 4, MISPLACED);
        faulty("5=x+*x", 4, MISPLACED);
        faulty("5=^2", 2, MISPLACED);
        faulty("5=x)", 3, MISPLACED);
        faulty("5=)", 2, MISPLACED);
        faulty("5=()", 3, MISPLACED, 1, 2);
        faulty("5=(x", 4, MISPLACED, 1, 2);
        faulty("5=(x ", 5, MISPLACED, 1, 2);
        faulty("5=(", 3, MISPLACED, 1, 2);
        faulty("5=(x;5=x)", 4, MISPLACED, 1, 2);
        faulty("5=(x=x)", 4, MISPLACED, 1, 2);
        faulty("5=((x)", 6, MISPLACED, 1, 2);
        faulty("5=(x))", 5, MISPLACED);
    }

    /** "3 the first byte of a POWER, a PRODUCT by which there is a DEGREE above 31". */
    private static void degreesAbove31() {
        sum("(x^15)^2", 1L << 30);
        sum("(x^31)^1", 1L << 31);
        sum("(x^3)^10 x", 1L << 31);
        sum("p8^31", 4294967295L);
        sum("x^16 x^15", 1L << 31);
        sum("x^31*1", 1L << 31);
        sum("x^31 0", 0);
        sum("x^31 0 x^31", 0);
        sum("0 x^31 x^31", 0);
        sum("p5 p4", 2147483657L);
        sum("x^31 x^0 + x^16 x^15 + x", 2);
        faulty("5=(x^16)^2", 2, TOO_HIGH);
        faulty("5= (x^2)^16", 3, TOO_HIGH);
        faulty("5=p5^2", 2, TOO_HIGH);
        faulty("5=p7^31", 2, TOO_HIGH);
        faulty("5=p1^8", 2, TOO_HIGH);
        faulty("5=tri 31 1^2", 2, TOO_HIGH);
        faulty("5=rev(x^31+1)^2", 2, TOO_HIGH);
        faulty("5=1+der (x^17)^2", 4, TOO_HIGH);
        faulty("5=x^31 x", 2, TOO_HIGH);
        faulty("5=x x^31", 2, TOO_HIGH);
        faulty("5=x^16*x^16", 2, TOO_HIGH);
        faulty("5=p5p5", 2, TOO_HIGH);
        faulty("5=x + x^30 x x", 6, TOO_HIGH);
        faulty("5=x^31 x+$", 2, TOO_HIGH);
        faulty("5=x^31(x)", 2, TOO_HIGH);
    }

    /** "(asked as each POWER ends, then of the PRODUCT so far)". */
    private static void whenDegreesAreAsked() {
        faulty("5=x(x^16)^2", 3, TOO_HIGH);
        faulty("5=x (x^16)^2$", 4, TOO_HIGH);
        faulty("5=x*(x^16)^2", 4, TOO_HIGH);
        faulty("5=x *  (x^16)^2", 7, TOO_HIGH);
        faulty("5=1 +  x * (x^16) ^2", 11, TOO_HIGH);
        faulty("5=1 +  x * x^31", 7, TOO_HIGH);
        faulty("5=x^31 (x^16)^2", 7, TOO_HIGH);
        faulty("5=0 (x^16)^2", 4, TOO_HIGH);
        faulty("5=0^1 x^31 (x^16)^2", 11, TOO_HIGH);
        faulty("5=x^31 x 0", 2, TOO_HIGH);
        faulty("5=x^31 x 2", 2, TOO_HIGH);
        faulty("5=x^31 x$", 2, TOO_HIGH);
        faulty("5=x^31 x*", 2, TOO_HIGH);
        faulty("5=x^31 2 x", 7, BAD_NUMBER);
        faulty("5=x^31 x^", 9, MISPLACED);
        faulty("5=x^31 x^32", 9, BAD_NUMBER);
        faulty("5=x^31 y", 7, MISPLACED);
        faulty("5=(x^16)^32", 9, BAD_NUMBER);
        faulty("5=(x^16)^$", 9, MISPLACED);
        sum("x^31 x^0", 1L << 31);
        sum("x^31 (x^31)^0", 1L << 31);
    }

    /** "4 the seventh ( that is open at once." */
    private static void seventhOpen() {
        sum("((((((x))))))", 2);
        sum("(((((rev(x^2+1))))))", 5);
        sum("rev(der(rev(der(rev(der(x^2+x))))))", 0);
        sum("((((((x))))))((((((x))))))+((((((1))))))", 5);
        sum("(x)(x)(x)(x)(x)(x)(x)(x)", 256);
        faulty("5=(((((((x)))))))", 8, TOO_DEEP, 6, 7);
        faulty("5=(((((((", 8, TOO_DEEP, 6, 7);
        faulty("5= ( ( ( ( ( ( (", 15, TOO_DEEP, 6, 13);
        faulty("5=((((((rev(x)))))))", 11, TOO_DEEP, 6, 7);
        faulty("5=((((((der (x)))))))", 12, TOO_DEEP, 6, 7);
        faulty("5=rev(rev(rev(rev(rev(rev((x)))))))", 26, TOO_DEEP, 6, 25);
        faulty("5=((((((x))))))(((((((x)))))))", 21, TOO_DEEP, 6, 20);
        faulty("5=((((((x)((x", 11, TOO_DEEP, 6, 10);
    }

    /** "Of one place the least.": a ( or NUMBER that cannot stand there is 1, whatever it is. */
    private static void ofOnePlaceTheLeast() {
        faulty("5=((((((x^(1", 10, MISPLACED, 6, 7);
        faulty("5=((((((p(1", 9, MISPLACED, 6, 7);
        faulty("5=((((((tri(1", 11, MISPLACED, 6, 7);
        faulty("5 10=x", 2, MISPLACED);
        faulty("5 2", 2, MISPLACED);
        faulty("10(", 0, BAD_NUMBER);
    }

    /** "WITHIN: of a FAULT that lies in some ( how many are open there, and the place of the innermost of them." */
    private static void within() {
        faulty("5=(x$", 4, MISPLACED, 1, 2);
        faulty("5=(x)$", 5, MISPLACED);
        faulty("5=x+(x+(x+$", 10, MISPLACED, 2, 7);
        faulty("5=(x+(x)+$", 9, MISPLACED, 1, 2);
        faulty("5=((x)+(x)+rev(x)+(2", 19, BAD_NUMBER, 2, 18);
        faulty("5=rev(2", 6, BAD_NUMBER, 1, 5);
        faulty("5=der (x^32", 9, BAD_NUMBER, 1, 6);
        faulty("5=(tri 2 2", 9, BAD_NUMBER, 1, 2);
        faulty("5=((((((2", 8, BAD_NUMBER, 6, 7);
        faulty("5=(x^31 x)", 3, TOO_HIGH, 1, 2);
        faulty("5=(x^16)^2", 2, TOO_HIGH, 0, OUTSIDE);
        faulty("5=((x^16)^2", 3, TOO_HIGH, 1, 2);
        faulty("5=(x^20)(x^20)", 2, TOO_HIGH, 0, OUTSIDE);
        faulty("5=(x+(x^20)(x^20)", 5, TOO_HIGH, 1, 2);
        faulty("5=((((((x^31 x", 8, TOO_HIGH, 6, 7);
        faulty("5=x;5=(x;5=x", 8, MISPLACED, 1, 6);
        faulty("5=(x);5=$", 8, MISPLACED);
    }

    public static void main(String[] args) {
        newObject();
        objectsApart();
        feedTo300();
        feedInOrder();
        endOfTape();
        howManyStatements();
        emptyTexts();
        faultBehindStatements();
        faultsOfTheLatestRun();
        placesOfTexts();
        numbersOfPowers();
        numbersAsOne();
        numbersOfTri();
        revAndDer();
        placesAsTheyAre();
        wordsAndBlanks();
        besideDigitsAndLetters();
        partsMissing();
        degreesAbove31();
        whenDegreesAreAsked();
        seventhOpen();
        ofOnePlaceTheLeast();
        within();
        EDGES.close();
    }
}
