/** Promises 1 to 5: a new object, the TAPE, TEXTS and their FAULTS. */
public final class TextTest {
    private static final Check CHECK = new Check("TextTest");

    private static void value(String sum, long bits) {
        TriSplits x = new TriSplits();
        x.put(1, 11);
        x.put(9, 7);
        CHECK.due("run of 0=" + sum, Check.run(x, "0=" + sum), 1);
        CHECK.due("bits of 0=" + sum, x.bits(0), bits);
        CHECK.due("fault(0) of 0=" + sum, x.fault(0), -1);
    }

    private static void faulty(String text, int place, int code, int within, int innermost) {
        TriSplits x = new TriSplits();
        x.put(1, 11);
        int fault = 8 * place + code;
        CHECK.due("run of " + text, Check.run(x, text), -2 - fault);
        CHECK.due("fault(0) of " + text, x.fault(0), fault);
        CHECK.due("fault(1) of " + text, x.fault(1), within);
        CHECK.due("fault(2) of " + text, x.fault(2), innermost);
        CHECK.due("count(2) of " + text, x.count(2), 0);
        CHECK.due("count(1) of " + text, x.count(1), 1);
        CHECK.due("count(5) of " + text, x.count(5), 3);
    }

    private static void newObject() {
        TriSplits x = new TriSplits();
        CHECK.due("NONE", TriSplits.NONE, -1);
        for (int i = 0; i < 10; i++) {
            CHECK.due("bits " + i, x.bits(i), 0);
        }
        for (int i = 0; i < 6; i++) {
            CHECK.due("count " + i, x.count(i), 0);
        }
        CHECK.due("fault 0", x.fault(0), -1);
        CHECK.due("fault 1", x.fault(1), 0);
        CHECK.due("fault 2", x.fault(2), -1);
        CHECK.due("shift 0", x.shift(0), -2);
        CHECK.due("step", x.step(1), -2);
        CHECK.due("jump", x.jump(1), -2);
        CHECK.due("undo", x.undo(), -1);
        CHECK.due("back 0", x.back(0), -2);
        CHECK.due("back 1", x.back(1), -2);
    }

    private static void tape() {
        TriSplits x = new TriSplits();
        CHECK.due("end(0)", x.end(0), 0);
        CHECK.due("end(1) of none", x.end(1), -1);
        for (int i = 1; i <= 15; i++) {
            CHECK.due("feed " + i, x.feed(0x303d7820, 0x20202020, 0x20202020, 0x20202020, 0x20202020), 20 * i);
        }
        CHECK.due("feed of the 301st", x.feed(0, 0, 0, 0, 0), -1);
        CHECK.due("count(2)", x.count(2), 300);
        CHECK.due("end(-1)", x.end(-1), -1);
        CHECK.due("end(301)", x.end(301), -1);
        CHECK.due("end(300)", x.end(300), 300);
        CHECK.due("end(281)", x.end(281), 281);
        CHECK.due("feed above 300", x.feed(0, 0, 0, 0, 0), -1);
        CHECK.due("end(280)", x.end(280), 280);
        CHECK.due("feed to 300", x.feed(0, 0, 0, 0, 0), 300);
        CHECK.due("end(20)", x.end(20), 20);
        CHECK.due("run", x.run(), 1);
        CHECK.due("bits", x.bits(0), 2);
        CHECK.due("count(2) behind run", x.count(2), 0);
        // the highest byte first, and each of the five numbers in its turn
        x.feed(0x303d785e, 0x332b785e, 0x322b783b, 0x313d7878, 0x2b313030);
        CHECK.due("run of five numbers", x.run(), -2 - (8 * 14 + 1));
        x.feed(0x303d785e, 0x332b785e, 0x322b783b, 0x313d7820, 0x782b3120);
        CHECK.due("run of five numbers", x.run(), 2);
        CHECK.due("bits(0)", x.bits(0), 14);
        CHECK.due("bits(1)", x.bits(1), 5);
    }

    private static void values() {
        value("x^3+x+1", 11);
        value("0", 0);
        value("1", 1);
        value("01", 1);
        value("000", 0);
        value("x+x", 0);
        value("x+x+x", 2);
        value("x x", 4);
        value("x*x", 4);
        value("(x+1)(x+1)", 5);
        value("(x+1)^2 x", 10);
        value("x1", 2);
        value("x01 1", 2);
        value("0^0", 1);
        value("0^5", 0);
        value("x^0", 1);
        value("x^031", 1L << 31);
        value("x^31+1", 2147483649L);
        value("x^31*1", 1L << 31);
        value("(x+1)^31", 4294967295L);
        value("(x+1)^30 (x+1)", 4294967295L);
        value("x^31 0 x^31", 0);
        value("1^31", 1);
        value("(x^15)^2", 1L << 30);
        value(" ( x + 1 ) ^ 2 ", 5);
        value("tri 4 1", 19);
        value("tri31 30", (1L << 31) + (1L << 30) + 1);
        value("tri 2 1^2", 21);
        value("tri 2 1 1", 7);
        value("p1", 11);
        value("p01", 11);
        value("p 9 p1", 49);
        value("p0+p2", 0);
        value("rev(x^3+x)", 5);
        value("rev(0)", 0);
        value("rev(x^31)", 1);
        value("rev (x^4+x^3+1)", 19);
        value("der(x^5+x^2+1)", 16);
        value("der(x^3+x+1)", 5);
        value("der(x^31)", 1L << 30);
        value("der(1)", 0);
        value("rev(p1)^2", 81);
        value("((((((x))))))", 2);
        value("(((((rev(x+1))))))", 3);
        value("(x)(x)(x)(x)(x)(x)(x)", 128);
    }

    private static void statements() {
        TriSplits x = new TriSplits();
        x.put(0, 3);
        CHECK.due("run", Check.run(x, "0=p0 x;1=p0+1;2=p1;1=x"), 4);
        CHECK.due("bits(0)", x.bits(0), 6);
        CHECK.due("bits(1)", x.bits(1), 2);
        CHECK.due("bits(2)", x.bits(2), 7);
        CHECK.due("one ACT", x.count(1), 2);
        CHECK.due("undo", x.undo(), 1);
        CHECK.due("bits(0)", x.bits(0), 3);
        CHECK.due("bits(2)", x.bits(2), 0);
        CHECK.due("a FAULT behind a STATEMENT", Check.run(x, "0=x;1=y"), -2 - (8 * 6 + 1));
        CHECK.due("bits(0)", x.bits(0), 3);
        CHECK.due("fault(3)", x.fault(3), -1);
        CHECK.due("fault(-1)", x.fault(-1), -1);
        CHECK.due("run without FAULT", Check.run(x, "09=1"), 1);
        CHECK.due("fault(0)", x.fault(0), -1);
        CHECK.due("fault(1)", x.fault(1), 0);
        CHECK.due("fault(2)", x.fault(2), -1);
        CHECK.due("bits(9)", x.bits(9), 1);
        Check.feed(x, "0=");
        Check.feed(x, "x^2");
        CHECK.due("run of two parts", x.run(), 1);
        CHECK.due("bits(0)", x.bits(0), 4);
        StringBuilder text = new StringBuilder("0=x");
        while (text.length() < 300) {
            text.append(text.length() < 297 ? ";0=x" : " ");
        }
        CHECK.due("run of 300 bytes", Check.run(x, text.toString()), 75);
    }

    private static void misplaced() {
        faulty("", 0, 1, 0, -1);
        faulty("   ", 3, 1, 0, -1);
        faulty("x", 0, 1, 0, -1);
        faulty("=", 0, 1, 0, -1);
        faulty("0", 1, 1, 0, -1);
        faulty("0 0=x", 2, 1, 0, -1);
        faulty("0=", 2, 1, 0, -1);
        faulty("0=  ", 4, 1, 0, -1);
        faulty("0=y", 2, 1, 0, -1);
        faulty("0=xx", 2, 1, 0, -1);
        faulty("0= xyz", 3, 1, 0, -1);
        faulty("0=xa", 2, 1, 0, -1);
        faulty("0=xz", 2, 1, 0, -1);
        faulty("0=a", 2, 1, 0, -1);
        faulty("0=x`", 3, 1, 0, -1);
        faulty("0=x{", 3, 1, 0, -1);
        faulty("0=x/", 3, 1, 0, -1);
        faulty("0=x:", 3, 1, 0, -1);
        faulty("0=revx(x)", 2, 1, 0, -1);
        faulty("0=px", 2, 1, 0, -1);
        faulty("0=re(x)", 2, 1, 0, -1);
        faulty("0=X", 2, 1, 0, -1);
        faulty("0=x$", 3, 1, 0, -1);
        faulty("0=x\0", 3, 1, 0, -1);
        faulty("0=\u00ff", 2, 1, 0, -1);
        faulty("0=x\t", 3, 1, 0, -1);
        faulty("0=x)", 3, 1, 0, -1);
        faulty("0=x;", 4, 1, 0, -1);
        faulty("0=x;;", 4, 1, 0, -1);
        faulty("0=x^", 4, 1, 0, -1);
        faulty("0=x^ +", 5, 1, 0, -1);
        faulty("0=x^2^2", 5, 1, 0, -1);
        faulty("0=x+", 4, 1, 0, -1);
        faulty("0=x++x", 4, 1, 0, -1);
        faulty("0=+x", 2, 1, 0, -1);
        faulty("0=*x", 2, 1, 0, -1);
        faulty("0=x**x", 4, 1, 0, -1);
        faulty("0=x*", 4, 1, 0, -1);
        faulty("0=x*+x", 4, 1, 0, -1);
        faulty("0=p", 3, 1, 0, -1);
        faulty("0=p x", 4, 1, 0, -1);
        faulty("0=p(1)", 3, 1, 0, -1);
        faulty("0=tri", 5, 1, 0, -1);
        faulty("0=tri 3", 7, 1, 0, -1);
        faulty("0=tri 3 x", 8, 1, 0, -1);
        faulty("0=tri(3)", 5, 1, 0, -1);
        faulty("0=rev x", 6, 1, 0, -1);
        faulty("0=der", 5, 1, 0, -1);
        faulty("0=()", 3, 1, 1, 2);
        faulty("0=(x", 4, 1, 1, 2);
        faulty("0=(x;1=x", 4, 1, 1, 2);
        faulty("0=(x+(y))", 6, 1, 2, 5);
        faulty("0=(x)(x+(x)+ rev (x$", 19, 1, 2, 17);
        faulty("0=((x)+(x)", 10, 1, 1, 2);
        faulty("0=((x)^x)", 7, 1, 1, 2);
    }

    private static void numbers() {
        faulty("10=x", 0, 2, 0, -1);
        faulty(" 99999999999999999999=x", 1, 2, 0, -1);
        faulty("0=2", 2, 2, 0, -1);
        faulty("0=10", 2, 2, 0, -1);
        faulty("0=x 2", 4, 2, 0, -1);
        faulty("0=x2", 3, 2, 0, -1);
        faulty("0=x^32", 4, 2, 0, -1);
        faulty("0=x^ 4294967296", 5, 2, 0, -1);
        faulty("0=p10", 3, 2, 0, -1);
        faulty("0=p1 2", 5, 2, 0, -1);
        faulty("0=tri 1 1", 6, 2, 0, -1);
        faulty("0=tri 32 1", 6, 2, 0, -1);
        faulty("0=tri 40 x", 6, 2, 0, -1);
        faulty("0=tri 3 3", 8, 2, 0, -1);
        faulty("0=tri 3 0", 8, 2, 0, -1);
        faulty("0=(tri 3 4)", 9, 2, 1, 2);
        faulty("0=((2))", 4, 2, 2, 3);
    }

    private static void tooHigh() {
        faulty("0=x^31 x", 2, 3, 0, -1);
        faulty("0=x^31 x y", 2, 3, 0, -1);
        faulty("0=1+ x^31*x^0*x", 5, 3, 0, -1);
        faulty("0=x^31 x 0", 2, 3, 0, -1);
        faulty("0=x^31 2", 7, 2, 0, -1);
        faulty("0=(x^2)^16", 2, 3, 0, -1);
        faulty("0=x (x^2)^16", 4, 3, 0, -1);
        faulty("0=x (x^2)^16$", 4, 3, 0, -1);
        faulty("0=0 (x^2)^16", 4, 3, 0, -1);
        faulty("0= x x^31", 3, 3, 0, -1);
        faulty("0=p1^11", 2, 3, 0, -1);
        faulty("0=rev(x^16 x^16)", 6, 3, 1, 5);
        faulty("0=(x+(x+ x^30 x x))", 9, 3, 2, 5);
        faulty("0=((x)^31 (x))", 3, 3, 1, 2);
    }

    private static void tooDeep() {
        faulty("0=(((((((x", 8, 4, 6, 7);
        faulty("0=((((((rev(x", 11, 4, 6, 7);
        faulty("0=((((((rev x", 12, 1, 6, 7);
        faulty("0=((((((x^(1", 10, 1, 6, 7);
        faulty("0=((((((x))))))((((((( ", 21, 4, 6, 20);
        faulty("0=((((((x)^2)))))1;1", 20, 1, 0, -1);
    }

    public static void main(String[] args) {
        newObject();
        tape();
        values();
        statements();
        misplaced();
        numbers();
        tooHigh();
        tooDeep();
        CHECK.close();
    }
}
