/** Promises 1 to 5 and 38: a new object, bytes, faults, halls and scripts told as texts. */
public final class TextsTest {
    private static final int NONE = Check.NONE;
    private static final int HIDDEN = Check.HIDDEN;
    private static final Check check = new Check("TextsTest");

    public static void main(String[] args) {
        promise1();
        promise2();
        promise3();
        faultsOfHalls();
        faultsOfNumbers();
        faultsOfScripts();
        promise5Halls();
        promise5Scripts();
        promise38();
        check.finish();
    }

    private static void promise1() {
        SpoolHall x = new SpoolHall();
        for (int what = 0; what < 6; what++) {
            check.due("count(" + what + ")", x.count(what), 0);
        }
        check.due("rule(0)", x.rule(0), NONE);
        check.dueThrow(x, 0, 0);
        check.due("file(0, 0)", x.file(0, 0), HIDDEN);
        check.due("drive(0)", x.drive(0), NONE);
        check.due("labelled(0)", x.labelled(0), NONE);
        check.due("seek(0, 0)", x.seek(0, 0), NONE);
        check.due("path(0, 0, 0)", x.path(0, 0, 0), NONE);
        check.due("years(1, 1)", x.years(1, 1), NONE);
        check.due("takes(0, 0)", x.takes(0, 0), NONE);
        check.due("least(0)", x.least(0), NONE);
        check.due("served(0)", x.served(0), NONE);
        check.due("soon(0)", x.soon(0), NONE);
        check.due("target(0)", x.target(0), NONE);
        check.due("cheap(1)", x.cheap(1), NONE);
        check.due("shares(0, 1)", x.shares(0, 1), NONE);
        check.due("log(0, 0)", x.log(0, 0), HIDDEN);
        for (int what = 0; what < 4; what++) {
            check.due("status(" + what + ")", x.status(what), 0);
        }
    }

    private static void promise2() {
        SpoolHall x = new SpoolHall();
        check.due("feed of blanks", x.feed(0, 0, 0, 0, 0), 0);
        check.due("feed of one in each place", x.feed(0x73000000, 0x003b0000, 0x00007400, 0x00000020, 0), 4);
        check.due("text of what was fed", x.text(0), 1);
        check.due("feed of high bytes", x.feed(-1, 0, 0, 0, 0x80000000), 5);
        for (int i = 0; i < 11; i++) {
            check.due("feed", x.feed(-1, -1, -1, -1, -1), 25 + 20 * i);
        }
        check.due("feed of 16 ahead of 240 with 15 free", x.feed(-1, -1, -1, -1, 0), NONE);
        check.due("nothing came", x.count(2), 225);
        check.due("feed of 15", x.feed(-1, -1, -1, 0x01020300, 0), 240);
        check.due("feed of none at 240", x.feed(0, 0, 0, 0, 0), 240);
        int[] one = new int[5];
        for (int i = 0; i < 5; i++) {
            one[i] = 1;
            check.due("feed of one at 240", x.feed(one[0], one[1], one[2], one[3], one[4]), NONE);
            one[i] = 0;
        }
        check.due("nothing came", x.count(2), 240);
    }

    private static void promise3() {
        SpoolHall x = new SpoolHall();
        Check.feed(x, "t;t;tk9;zz");
        check.due("end(-1)", x.end(-1), false);
        check.due("end(11)", x.end(11), false);
        check.due("count(2)", x.count(2), 10);
        check.due("end(10)", x.end(10), true);
        check.due("end(7)", x.end(7), true);
        check.due("count(2) behind end(7)", x.count(2), 7);
        check.due("end(8)", x.end(8), false);
        check.due("text(0)", x.text(0), 3);
        check.due("labelled(9)", x.labelled(9), 2);
        check.due("end(0) of nothing", x.end(0), true);
    }

    private static void fault(String text, int sort, int want) {
        check.due("fault(" + sort + ") of '" + text + "'", Check.faultOf(text, sort), want);
        SpoolHall x = new SpoolHall();
        Check.feed(x, text);
        if (want != NONE) {
            check.due("text(" + sort + ") of '" + text + "'", x.text(sort), NONE);
            check.due("it stays: '" + text + "'", x.count(2), text.length());
        }
    }

    private static void faultsOfHalls() {
        fault("", 0, 0);
        fault("   ", 0, 3);
        fault("s", 0, 1);
        fault("s;f", 0, 3);
        fault("t;", 0, 2);
        fault("t; ", 0, 3);
        fault(";t", 0, 0);
        fault("t;;t", 0, 2);
        fault("tt", 0, 1);
        fault("x", 0, 0);
        fault("T", 0, 0);
        fault("t,t", 0, 1);
        fault("s;t;s", 0, 4);
        fault("t;sn4;t;s", 0, 8);
        fault("t;t;t;t;t;t;t;t", 0, NONE);
        fault("t;t;t;t;t;t;t;t;t", 0, 16);
        fault("t;t;t;t;t;t;t;t;s n7", 0, 20);
        fault("t;t;t;t;t;s n5", 0, NONE);
        fault("t;t;t;t;t;s n4", 0, 14);
        fault("t" + ";f".repeat(24), 0, NONE);
        fault("t" + ";f".repeat(25), 0, 50);
        fault("f;f;t", 0, NONE);
        fault("tk", 0, 2);
        fault("tk ", 0, 3);
        fault("tk;", 0, 2);
        fault("tk1k2", 0, 3);
        fault("tk1u2", 0, NONE);
        fault("tu2k1u3", 0, 5);
        fault("tn4", 0, 1);
        fault("t;fk1", 0, 3);
        fault("t;sb1", 0, 3);
        fault("t;f t0b1", 0, NONE);
        fault("t;f b1t7b", 0, 8);
        fault("t" + (char) 233, 0, 1);
        fault(" t k 1 u 2 ; f b 3 ", 0, NONE);
        fault(" ".repeat(239) + "t", 0, NONE);
        fault("t" + " ".repeat(238) + ";", 0, 240);
        fault("t" + " ".repeat(238) + "t", 0, 239);
    }

    private static void faultsOfNumbers() {
        String letters = "ndlwmagi";
        int[] lows = {4, 1, 4, 1, 1, 1, 1, 1};
        int[] highs = {10, 3, 16, 6, 9, 5, 99, 99};
        for (int i = 0; i < letters.length(); i++) {
            for (int n = 0; n < 100; n++) {
                String text = "t;s" + letters.charAt(i) + n;
                fault(text, 0, n < lows[i] || n > highs[i] ? text.length() - 1 : NONE);
            }
        }
        fault("t;sl1;f", 0, 4);
        fault("t;sl1 6", 0, 4);
        fault("t;sl4 6", 0, 6);
        fault("t;sl04", 0, NONE);
        fault("t;sn00", 0, 5);
        fault("t;sn999", 0, 6);
        fault("t;sn004", 0, 6);
        fault("t;sn1000", 0, 6);
        fault("tk0u0", 0, NONE);
        fault("tk99u99", 0, NONE);
        fault("tk990", 0, 4);
        fault("t;ft7b9", 0, NONE);
        fault("t;ft8b9", 0, 4);
        fault("t;ft10", 0, 5);
        fault("t;fb0", 0, 4);
        fault("t;fb10", 0, 5);
        fault("t;fb09", 0, NONE);
        fault("t;fb-1", 0, 4);
    }

    private static void faultsOfScripts() {
        fault("", 1, 0);
        fault(" ", 1, 1);
        fault("s", 1, NONE);
        fault("a", 1, 1);
        fault("a7", 1, NONE);
        fault("a99", 1, NONE);
        fault("a 9 9", 1, 4);
        fault("a999", 1, 3);
        fault("d00", 1, NONE);
        fault("p;", 1, 1);
        fault("p0", 1, NONE);
        fault("p100", 1, 3);
        fault("m", 1, 1);
        fault("m9", 1, NONE);
        fault("m10", 1, 2);
        fault("u 1 0", 1, 4);
        fault("r7;r77", 1, 5);
        fault("w1,9", 1, NONE);
        fault("w1,99", 1, 4);
        fault("w1;", 1, 2);
        fault("w1,", 1, 3);
        fault("w,1", 1, 1);
        fault("w11,1", 1, 2);
        fault("c 0 , 9 ; x", 1, NONE);
        fault("c0 1", 1, 3);
        fault("s1", 1, 1);
        fault("l,", 1, 1);
        fault("x;", 1, 2);
        fault("x;;", 1, 2);
        fault("ss", 1, 1);
        fault("t", 1, 0);
        fault("s" + ";s".repeat(15), 1, NONE);
        fault("s" + ";s".repeat(15) + " ", 1, NONE);
        fault("s" + ";s".repeat(15) + " ;", 1, 32);
        fault("s" + ";s".repeat(16), 1, 31);
        fault("s" + ";s".repeat(15) + "s", 1, 31);
        check.due("fault(2)", new SpoolHall().fault(2), -2);
        check.due("fault(-1)", new SpoolHall().fault(-1), -2);
    }

    private static void promise5Halls() {
        SpoolHall x = Check.hall("sm1;t;fb3;tk4");
        check.due("empty behind it", x.count(2), 0);
        check.due("mount(1)", x.mount(1), 0);
        check.due("image()", x.image(), 9);
        check.due("mount(9)", x.mount(9), NONE);
        Check.tell(x, "m0;s", 1);
        Check.feed(x, "tk3u7;t;t;f;ft2b9;ft3;ft2b8;ft2b9;ft2b7;ft2");
        check.due("text(2)", x.text(2), NONE);
        check.due("text(-1)", x.text(-1), NONE);
        check.due("text(1) of a hall", x.text(1), NONE);
        check.due("they stay", x.count(2), 43);
        check.due("text(0)", x.text(0), 3);
        check.due("count(0)", x.count(0), 3);
        check.due("scripts stay", x.count(1), 1);
        check.due("status stays", x.status(0), 1);
        check.due("nothing to undo", x.undo(), NONE);
        check.due("no log", x.count(3), 0);
        check.due("no image", x.back(), NONE);
        check.due("time", x.most(0), 0);
        check.due("arm", x.most(1), 0);
        check.due("label", x.tape(0, 0), 3);
        check.due("wear", x.tape(0, 4), 7);
        check.due("wear of another", x.tape(1, 4), 0);
        check.due("files: one without its tape, one without room left out", x.count(5), 5);
        check.due("file(1, 0)", x.file(1, 0), 2);
        check.due("file(2, 1)", x.file(2, 1), 9);
        check.due("file(3, 1)", x.file(3, 1), 17);
        check.due("file(4, 1) behind the one without room", x.file(4, 1), 26);
        check.due("file(4, 2): seven blocks have no room, one has", x.file(4, 2), 1);
        check.due("end of the tape", x.tape(2, 3), 27);
        check.due("all are known", x.most(5), 5);
    }

    private static void promise5Scripts() {
        SpoolHall x = new SpoolHall();
        for (int i = 0; i < 4; i++) {
            Check.feed(x, "p" + (i + 1));
            check.due("text(1)", x.text(1), i);
            check.due("count(1)", x.count(1), i + 1);
        }
        Check.feed(x, "p5");
        check.due("a fifth", x.text(1), NONE);
        check.due("it stays", x.count(2), 2);
        check.due("fault of a fifth", x.fault(1), NONE);
        check.due("step(3, 0, 1)", x.step(3, 0, 1), 4);
        check.due("no hall", x.count(0), 0);
    }

    private static void promise38() {
        SpoolHall x = new SpoolHall();
        Check.tell(x, "x", 1);
        Check.tell(x, "a12;s;w3,4;d05;m6;u7;c8,9;l;r0;p99;x", 1);
        int[][] due = {{0, 12, NONE}, {1, NONE, NONE}, {2, 3, 4}, {3, 5, NONE}, {4, 6, NONE}, {5, 7, NONE},
            {6, 8, 9}, {7, NONE, NONE}, {8, 0, NONE}, {9, 99, NONE}, {10, NONE, NONE}};
        for (int i = 0; i < due.length; i++) {
            for (int what = 0; what < 3; what++) {
                check.due("step(1, " + i + ", " + what + ")", x.step(1, i, what), due[i][what]);
            }
        }
        check.due("step(0, 0, 0)", x.step(0, 0, 0), 10);
        Check.tell(x, "s;".repeat(15) + "w3,4", 1);
        check.due("step(2, 15, 0)", x.step(2, 15, 0), 2);
        check.due("step(2, 15, 1)", x.step(2, 15, 1), 3);
        check.due("step(2, 15, 2)", x.step(2, 15, 2), 4);
        check.due("step(2, 16, 0)", x.step(2, 16, 0), HIDDEN);
        check.due("step(0, 1, 0)", x.step(0, 1, 0), HIDDEN);
        check.due("step(1, 11, 0)", x.step(1, 11, 0), HIDDEN);
        check.due("step(1, -1, 0)", x.step(1, -1, 0), HIDDEN);
        check.due("step(3, 0, 0)", x.step(3, 0, 0), HIDDEN);
        check.due("step(-1, 0, 0)", x.step(-1, 0, 0), HIDDEN);
        check.due("step(1, 0, 3)", x.step(1, 0, 3), HIDDEN);
        check.due("step(1, 0, -1)", x.step(1, 0, -1), HIDDEN);
    }
}
