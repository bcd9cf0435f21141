/** One test for each sentence of promises 1 to 5 and 38, and of the first part of "Terms", that names a boundary. */
public final class TextEdgesTest {
    private static final int NONE = Check.NONE;
    private static final int HIDDEN = Check.HIDDEN;
    private static final int[] FAR_OUT = {Integer.MIN_VALUE, -1000000, -2, -1, 1 << 30, Integer.MAX_VALUE};

    public static void main(String[] args) {
        Edges.runAll(TextEdgesTest.class);
    }

    /** A text's fault; a faulty one is refused and stays, another one is taken and gone. */
    private static void fault(Check check, String text, int sort, int due) {
        SpoolHall x = new SpoolHall();
        Check.feed(x, text);
        check.due("fault(" + sort + ") of '" + text + "'", x.fault(sort), due);
        check.due("fault(" + sort + ") of '" + text + "' again", x.fault(sort), due);
        check.due("text(" + sort + ") of '" + text + "' is taken", x.text(sort) != NONE, due == NONE);
        check.due("bytes left of '" + text + "'", x.count(2), due == NONE ? 0 : text.length());
    }

    // ---- promise 1

    @Edge(promise = 1, says = "No HALL.")
    static void aNewObjectCountsNothing(Check check) {
        for (int what = 0; what < 6; what++) {
            check.due("count(" + what + ")", new SpoolHall().count(what), 0);
        }
        for (int what = 0; what < 4; what++) {
            check.due("status(" + what + ")", new SpoolHall().status(what), 0);
        }
        check.due("fault(0): nothing is read", new SpoolHall().fault(0), 0);
    }

    @Edge(promise = 1, says = "No HALL.")
    static void aNewObjectHasNothingToTell(Check check) {
        SpoolHall x = new SpoolHall();
        for (int what = 0; what < 9; what++) {
            check.due("rule(" + what + ")", x.rule(what), NONE);
        }
        for (int what = 0; what < 11; what++) {
            check.dueThrow(x, 0, what);
            check.due("most(" + what + ")", x.most(what), HIDDEN);
        }
        check.due("file(0, 0)", x.file(0, 0), HIDDEN);
        check.due("drive(0)", x.drive(0), NONE);
        check.due("labelled(0)", x.labelled(0), NONE);
        check.due("way(0, 0)", x.way(0, 0), NONE);
        check.due("seek(0, 0)", x.seek(0, 0), NONE);
        check.due("path(0, 0, 0)", x.path(0, 0, 0), NONE);
        check.due("log(0, 0)", x.log(0, 0), HIDDEN);
        check.due("step(0, 0, 0)", x.step(0, 0, 0), HIDDEN);
        check.due("served(0)", x.served(0), NONE);
        check.due("soon(0)", x.soon(0), NONE);
        check.due("undo()", x.undo(), NONE);
        check.due("back()", x.back(), NONE);
    }

    // ---- promise 2

    @Edge(promise = 2, says = "of each number the highest first")
    static void theHighestByteComesFirst(Check check) {
        SpoolHall x = new SpoolHall();
        check.due("feed", x.feed(0x746b3132, 0x3b746b33, 0x343b746b, 0x35363b74, 0x6b37383b), 20);
        x.feed(0x74000000, 0, 0, 0, 0);
        check.due("text(0)", x.text(0), 5);
        int[] labels = {12, 34, 56, 78, 0};
        for (int tape = 0; tape < 5; tape++) {
            check.due("labelled(" + labels[tape] + ")", x.labelled(labels[tape]), tape);
        }
    }

    @Edge(promise = 2, says = "bytes of 0 are left out")
    static void zerosAreLeftOutWhereverTheyStand(Check check) {
        check.due("twenty zeros", new SpoolHall().feed(0, 0, 0, 0, 0), 0);
        for (int place = 0; place < 20; place++) {
            SpoolHall x = new SpoolHall();
            int[] five = new int[5];
            five[place / 4] = 't' << 24 - 8 * (place % 4);
            check.due("a t at " + place + ", else zeros", x.feed(five[0], five[1], five[2], five[3], five[4]), 1);
            check.due("fault(0)", x.fault(0), NONE);
        }
    }

    @Edge(promise = 2, says = "Twenty bytes more come")
    static void bytesFrom128OnAreBytesToo(Check check) {
        SpoolHall x = new SpoolHall();
        check.due("feed of 128 and 255", x.feed(0x80000080, 0xff0000ff, -1, 0, 0x80000000), 9);
        check.due("fault(0)", x.fault(0), 0);
        x.end(0);
        x.feed(0x74ff0000, 0, 0, 0, 0);
        check.due("fault(0) of t and 255", x.fault(0), 1);
    }

    private static SpoolHall withBytes(int n) {
        SpoolHall x = new SpoolHall();
        Check.feed(x, "t" + " ".repeat(n - 1));
        return x;
    }

    @Edge(promise = 2, says = "how many it has")
    static void oneByteAndAllBytes(Check check) {
        check.due("the first byte", withBytes(1).count(2), 1);
        check.due("20 bytes behind 220", withBytes(220).feed(-1, -1, -1, -1, -1), 240);
        check.due("1 byte behind 239", withBytes(239).feed(0, 0, 0, 0, 1), 240);
        check.due("none behind 240", withBytes(240).feed(0, 0, 0, 0, 0), 240);
        SpoolHall x = withBytes(240);
        check.due("text(0) of 240 bytes", x.text(0), 1);
        check.due("it begins anew", x.feed(0, 0, 0, 0, 't'), 1);
    }

    @Edge(promise = 2, says = "NONE: more than 240.")
    static void more(Check check) {
        Edges.changesNothing(check, "20 bytes behind 221", () -> withBytes(221), x -> x.feed(-1, -1, -1, -1, -1), NONE);
        Edges.changesNothing(check, "2 bytes behind 239", () -> withBytes(239), x -> x.feed(1, 0, 0, 0, 1), NONE);
        for (int place = 0; place < 20; place++) {
            int[] five = new int[5];
            five[place / 4] = 't' << 24 - 8 * (place % 4);
            Edges.changesNothing(check, "1 byte (place " + place + ") behind 240", () -> withBytes(240),
                x -> x.feed(five[0], five[1], five[2], five[3], five[4]), NONE);
        }
        SpoolHall x = withBytes(239);
        x.feed(1, 1, 1, 1, 1);
        check.due("1 byte behind a refused feed", x.feed(';' << 24, 0, 0, 0, 0), 240);
        check.due("nothing of the refused feed came", x.fault(0), 240);
    }

    // ---- promise 3

    @Edge(promise = 3, says = "It has its first n bytes alone.")
    static void noneOneAndAllOfThem(Check check) {
        for (int n = 0; n <= 5; n++) {
            SpoolHall x = new SpoolHall();
            Check.feed(x, "t;t;t");
            check.due("end(" + n + ") of 5", x.end(n), true);
            check.due("count(2)", x.count(2), n);
            check.due("fault(0)", x.fault(0), n % 2 == 1 ? NONE : n);
        }
        check.due("end(0) of nothing", new SpoolHall().end(0), true);
        check.due("end(240) of 240", withBytes(240).end(240), true);
    }

    @Edge(promise = 3, says = "It has its first n bytes alone.")
    static void whatIsCutDoesNotComeBack(Check check) {
        SpoolHall x = new SpoolHall();
        Check.feed(x, "tk7;zz");
        x.end(3);
        check.due("end(4) behind end(3)", x.end(4), false);
        check.due("end(3) again", x.end(3), true);
        check.due("feed behind it", Check.feed(x, "u5"), 5);
        check.due("text(0)", x.text(0), 1);
        check.due("wear", x.tape(0, 4), 5);
    }

    @Edge(promise = 3, says = "False: n.")
    static void fewerThanNoneOrMoreThanThereAre(Check check) {
        for (int n : new int[] {-1, 7, Integer.MIN_VALUE, Integer.MAX_VALUE, 240}) {
            Edges.changesNothing(check, "end(" + n + ") of 6", Edges.busy(x -> { }), x -> x.end(n) ? 1 : 0, 0);
        }
        check.due("end(1) of nothing", new SpoolHall().end(1), false);
        check.due("end(241) of 240", withBytes(240).end(241), false);
    }

    // ---- promise 4

    @Edge(promise = 4, says = "-2: no such sort.")
    static void sortsThatAreNone(Check check) {
        for (int sort : FAR_OUT) {
            Edges.changesNothing(check, "fault(" + sort + ")", Edges.busy(x -> { }), x -> x.fault(sort), -2);
        }
        Edges.changesNothing(check, "fault(2)", Edges.busy(x -> { }), x -> x.fault(2), -2);
        check.due("fault(2) of a right text", withBytes(1).fault(2), -2);
    }

    @Edge(promise = 4, says = "The FAULT of what is read as a HALL (0), a SCRIPT (1).")
    static void oneTextReadAsBoth(Check check) {
        fault(check, "s", 0, 1);
        fault(check, "s", 1, NONE);
        fault(check, "t", 0, NONE);
        fault(check, "t", 1, 0);
        Edges.changesNothing(check, "fault(0)", Edges.busy(x -> { }), x -> x.fault(0), NONE);
        Edges.changesNothing(check, "fault(1)", Edges.busy(x -> { }), x -> x.fault(1), 0);
    }

    @Edge(promise = 4, says = "s (its RULES; one at most)")
    static void noneOrOneOfRules(Check check) {
        fault(check, "t", 0, NONE);
        fault(check, "t;s", 0, NONE);
        fault(check, "s;t", 0, NONE);
    }

    @Edge(promise = 4, says = "a second s")
    static void aSecondOfRulesIsWrongAtItsLetter(Check check) {
        fault(check, "s;s", 0, 2);
        fault(check, "t;s;s", 0, 4);
        fault(check, "sn4;t;s n5", 0, 6);
        fault(check, "s;t; s", 0, 5);
    }

    @Edge(promise = 4, says = "t (a TAPE; 1 .. 8)")
    static void oneToEightTapes(Check check) {
        for (int tapes = 1; tapes <= 8; tapes++) {
            fault(check, "t;".repeat(tapes - 1) + "t", 0, NONE);
        }
    }

    @Edge(promise = 4, says = "a ninth t")
    static void aNinthTapeIsWrongAtItsLetter(Check check) {
        fault(check, "t;".repeat(8) + "t", 0, 16);
        fault(check, "sn10;" + "t;".repeat(8) + " t", 0, 22);
        fault(check, "sn9;" + "t;".repeat(8) + "tk1", 0, 20);
        fault(check, "sn4;" + "t;".repeat(8) + "t", 0, 20);
    }

    @Edge(promise = 4, says = "f (a FILE; none to 24)")
    static void noneTo24Files(Check check) {
        fault(check, "t", 0, NONE);
        fault(check, "t" + ";f".repeat(23), 0, NONE);
        fault(check, "t" + ";f".repeat(24), 0, NONE);
        fault(check, "f;".repeat(24) + "t", 0, NONE);
    }

    @Edge(promise = 4, says = "a 25th f")
    static void a25thFileIsWrongAtItsLetter(Check check) {
        fault(check, "t" + ";f".repeat(25), 0, 50);
        fault(check, "f;".repeat(24) + " f", 0, 49);
        fault(check, "t" + ";ft7".repeat(24) + ";f", 0, 98);
    }

    @Edge(promise = 4, says = "in any order")
    static void allClausesAtTheirMost(Check check) {
        fault(check, "s" + ";t".repeat(8) + ";f".repeat(24), 0, NONE);
        fault(check, "f;".repeat(24) + "t;".repeat(8) + "s", 0, NONE);
        fault(check, "t;f;s;f;t", 0, NONE);
        fault(check, "s" + ";t".repeat(8) + ";f".repeat(24) + ";t", 0, 66);
    }

    @Edge(promise = 4, says = "then ITEMS, none or more")
    static void noItemsAndAllOfThem(Check check) {
        fault(check, "t;s;f", 0, NONE);
        fault(check, "sn10d3l16w6m9a5g99i99;tk99u99;ft7b9", 0, NONE);
        fault(check, "si1g1a1m1w1l4d1n4;tu0k0;fb1t0", 0, NONE);
    }

    @Edge(promise = 4, says = "a letter, each once at most in a CLAUSE")
    static void theSameLetterInAnotherClause(Check check) {
        fault(check, "tk1;tk1;tk1", 0, NONE);
        fault(check, "t;ft0b1;ft0b1", 0, NONE);
    }

    @Edge(promise = 4, says = "a letter that was there")
    static void aLetterThatWasThereIsWrongItself(Check check) {
        String[] items = {"n4", "d1", "l4", "w1", "m1", "a1", "g1", "i1"};
        for (String item : items) {
            fault(check, "t;s" + item + item, 0, 5);
        }
        fault(check, "tk1k1", 0, 3);
        fault(check, "tu1u1", 0, 3);
        fault(check, "tk1u2k", 0, 5);
        fault(check, "t;ft0t0", 0, 5);
        fault(check, "t;fb1b1", 0, 5);
        fault(check, "t;fb1t0 b", 0, 8);
    }

    @Edge(promise = 4, says = "a letter, each once at most in a CLAUSE")
    static void lettersOfOtherClausesAreWrong(Check check) {
        fault(check, "tn4", 0, 1);
        fault(check, "tb1", 0, 1);
        fault(check, "t;fk1", 0, 3);
        fault(check, "t;fn4", 0, 3);
        fault(check, "t;sk1", 0, 3);
        fault(check, "t;st0", 0, 3);
        fault(check, "t;sb1", 0, 3);
        fault(check, "t;z", 0, 2);
        fault(check, "T", 0, 0);
    }

    /** An item's bounds, what lies just beyond them, and leading zeros. */
    private static void item(Check check, String ahead, int low, int high) {
        for (int n = 0; n < 100; n++) {
            String text = ahead + n;
            fault(check, text, 0, n < low || n > high ? text.length() - 1 : NONE);
            if (n < 10) {
                fault(check, ahead + "0" + n, 0, n < low || n > high ? text.length() : NONE);
            }
        }
        fault(check, ahead + "100", 0, ahead.length() + 2);
    }

    private static void without(Check check, int what, int due) {
        check.due("rule(" + what + ") without", Check.hall("t").rule(what), due);
        check.due("rule(" + what + ") of a bare s", Check.hall("s;t").rule(what), due);
    }

    @Edge(promise = 4, says = "n SLOTS (4 .. 10; 8 without)")
    static void slots(Check check) {
        item(check, "t;sn", 4, 10);
        without(check, 0, 8);
    }

    @Edge(promise = 4, says = "d DRIVES (1 .. 3; 1)")
    static void drives(Check check) {
        item(check, "t;sd", 1, 3);
        without(check, 1, 1);
    }

    @Edge(promise = 4, says = "l LENGTH (4 .. 16; 8)")
    static void length(Check check) {
        item(check, "t;sl", 4, 16);
        without(check, 2, 8);
    }

    @Edge(promise = 4, says = "w WRAPS (1 .. 6; 4)")
    static void wraps(Check check) {
        item(check, "t;sw", 1, 6);
        without(check, 3, 4);
    }

    @Edge(promise = 4, says = "m MOUNT (1 .. 9; 3)")
    static void mount(Check check) {
        item(check, "t;sm", 1, 9);
        without(check, 4, 3);
    }

    @Edge(promise = 4, says = "a ARM (1 .. 5; 1)")
    static void arm(Check check) {
        item(check, "t;sa", 1, 5);
        without(check, 5, 1);
    }

    @Edge(promise = 4, says = "g WORN (1 .. 99; 20)")
    static void worn(Check check) {
        item(check, "t;sg", 1, 99);
        without(check, 6, 20);
    }

    @Edge(promise = 4, says = "i IDLE (1 .. 99; 30)")
    static void idle(Check check) {
        item(check, "t;si", 1, 99);
        without(check, 7, 30);
    }

    @Edge(promise = 4, says = "k LABEL (0 .. 99; 0)")
    static void label(Check check) {
        item(check, "tk", 0, 99);
        check.due("label without", Check.hall("t").tape(0, 0), 0);
        check.due("label of 99", Check.hall("tk99").tape(0, 0), 99);
        check.due("no label of the tape ahead", Check.hall("tk99;t").tape(1, 0), 0);
    }

    @Edge(promise = 4, says = "u WEAR (0 .. 99; 0)")
    static void wear(Check check) {
        item(check, "tu", 0, 99);
        check.due("wear without", Check.hall("t").tape(0, 4), 0);
        check.due("wear of 99", Check.hall("tu99").tape(0, 4), 99);
        check.due("no wear of the tape ahead", Check.hall("tu99;t").tape(1, 4), 0);
    }

    @Edge(promise = 4, says = "t TAPE (0 .. 7; 0)")
    static void tapeOfAFile(Check check) {
        item(check, "t;ft", 0, 7);
        check.due("tape without", Check.hall("t;t;f").file(0, 0), 0);
        check.due("tape of 7", Check.hall("t;t;t;t;t;t;t;t;ft7").file(0, 0), 7);
        check.due("not the tape of the file ahead", Check.hall("t;t;ft1;f").file(1, 0), 0);
    }

    @Edge(promise = 4, says = "b BLOCKS (1 .. 9; 1)")
    static void blocksOfAFile(Check check) {
        item(check, "t;fb", 1, 9);
        check.due("blocks without", Check.hall("t;f").file(0, 2), 1);
        check.due("blocks of 9", Check.hall("t;fb9").file(0, 2), 9);
        check.due("not the blocks of the file ahead", Check.hall("t;fb9;f").file(1, 2), 1);
    }

    @Edge(promise = 4, says = "a number (one or two digits)")
    static void noDigitAtAll(Check check) {
        fault(check, "tk", 0, 2);
        fault(check, "tk ", 0, 3);
        fault(check, "tku1", 0, 2);
        fault(check, "tk;t", 0, 2);
        fault(check, "tk-1", 0, 2);
        fault(check, "tk/", 0, 2);
        fault(check, "tk:", 0, 2);
    }

    @Edge(promise = 4, says = "a number out of bounds is wrong at its last digit")
    static void theLastOfOneOrTwoDigits(Check check) {
        fault(check, "t;sn3;t", 0, 4);
        fault(check, "t;sn11;t", 0, 5);
        fault(check, "t;sn3", 0, 4);
        fault(check, "t;sn11", 0, 5);
        fault(check, "t;sn00", 0, 5);
        fault(check, "t;sl1;t", 0, 4);
        fault(check, "t;sl1 6", 0, 4);
        fault(check, "t;sn3z", 0, 4);
        fault(check, "t;sn11d1", 0, 5);
    }

    @Edge(promise = 4, says = "a third digit itself, whatever stands ahead of it")
    static void aThirdDigitBehindRightAndWrongOnes(Check check) {
        fault(check, "t;sn100", 0, 6);
        fault(check, "t;sn004", 0, 6);
        fault(check, "t;sn000", 0, 6);
        fault(check, "t;sn999", 0, 6);
        fault(check, "t;sn9999", 0, 6);
        fault(check, "tk990;t", 0, 4);
        fault(check, "a100", 1, 3);
        fault(check, "a000", 1, 3);
    }

    @Edge(promise = 4, says = "Blanks (32) may stand between all signs of both, not within a number.")
    static void blanks(Check check) {
        fault(check, "s n 4 d 1 ; t k 1 u 2 ; f t 0 b 1", 0, NONE);
        fault(check, "t  ;  s  n  10", 0, NONE);
        fault(check, "t;s n1 0", 0, 5);
        fault(check, "t;s n4 0", 0, 7);
        fault(check, "w 1 , 2 ; c 0 , 1 ; a 12 ; p 9", 1, NONE);
        fault(check, "a 1 2", 1, 4);
        fault(check, "t" + (char) 9 + ";t", 0, 1);
        fault(check, "t" + (char) 31, 0, 1);
        fault(check, "t" + (char) 33, 0, 1);
        fault(check, "t" + (char) 160, 0, 1);
    }

    @Edge(promise = 4, says = "the length, if it ends too early")
    static void endsTooEarly(Check check) {
        fault(check, "", 0, 0);
        fault(check, " ", 0, 1);
        fault(check, "t;", 0, 2);
        fault(check, "t; ", 0, 3);
        fault(check, "t;tk", 0, 4);
        fault(check, "t;fb", 0, 4);
        fault(check, "t" + " ".repeat(238) + ";", 0, 240);
        fault(check, "", 1, 0);
        fault(check, "  ", 1, 2);
        fault(check, "s;", 1, 2);
        fault(check, "a", 1, 1);
        fault(check, "w", 1, 1);
        fault(check, "w1", 1, 2);
        fault(check, "w1,", 1, 3);
        fault(check, "c1 , ", 1, 5);
    }

    @Edge(promise = 4, says = "without a TAPE")
    static void withoutATape(Check check) {
        fault(check, "s", 0, 1);
        fault(check, "f", 0, 1);
        fault(check, "s;f;f ", 0, 6);
        fault(check, "sn4;ft1", 0, 7);
    }

    @Edge(promise = 4, says = "with more TAPES than SLOTS")
    static void asManyTapesAsSlotsAndOneMore(Check check) {
        for (int slots = 4; slots <= 10; slots++) {
            for (int tapes = 1; tapes <= 8; tapes++) {
                String ahead = "sn" + slots + ";t".repeat(tapes);
                fault(check, ahead, 0, tapes > slots ? ahead.length() : NONE);
                String behind = "t;".repeat(tapes) + "sn" + slots + " ";
                fault(check, behind, 0, tapes > slots ? behind.length() : NONE);
            }
        }
        fault(check, "sn4;t;t;t;t;t;z", 0, 14);
    }

    @Edge(promise = 4, says = "STEPS with ; between, 1 to 16")
    static void oneTo16Steps(Check check) {
        for (int steps = 1; steps <= 16; steps++) {
            fault(check, "s;".repeat(steps - 1) + "s", 1, NONE);
        }
        fault(check, "c0,1;".repeat(15) + "w1,2 ", 1, NONE);
        fault(check, ";s", 1, 0);
        fault(check, "s;;s", 1, 2);
        fault(check, "ss", 1, 1);
    }

    @Edge(promise = 4, says = "the ; ahead of a 17th STEP")
    static void theSignAheadOfA17thStep(Check check) {
        fault(check, "s;".repeat(16) + "s", 1, 31);
        fault(check, "s;".repeat(16), 1, 31);
        fault(check, "s;".repeat(15) + "s ;z", 1, 32);
        fault(check, "s;".repeat(15) + "p1;p2", 1, 32);
        fault(check, "s;".repeat(15) + "ss", 1, 31);
    }

    @Edge(promise = 4, says = "Numbers of SCRIPTS: 0 .. 99.")
    static void numbersOfSteps(Check check) {
        for (String letter : new String[] {"a", "d", "p"}) {
            fault(check, letter + "0", 1, NONE);
            fault(check, letter + "00", 1, NONE);
            fault(check, letter + "99", 1, NONE);
            fault(check, letter + "100", 1, 3);
            fault(check, letter, 1, 1);
            fault(check, letter + ";s", 1, 1);
        }
    }

    @Edge(promise = 4, says = "m, u, each with a digit")
    static void digitsOfSteps(Check check) {
        for (String letter : new String[] {"m", "u", "r"}) {
            fault(check, letter + "0", 1, NONE);
            fault(check, letter + "9", 1, NONE);
            fault(check, letter + "10", 1, 2);
            fault(check, letter, 1, 1);
            fault(check, letter + ",", 1, 1);
        }
    }

    @Edge(promise = 4, says = "w and a digit, ,, a digit")
    static void pairsOfSteps(Check check) {
        for (String letter : new String[] {"w", "c"}) {
            fault(check, letter + "0,0", 1, NONE);
            fault(check, letter + "9,9", 1, NONE);
            fault(check, letter + "10,1", 1, 2);
            fault(check, letter + "1,10", 1, 4);
            fault(check, letter + ",1", 1, 1);
            fault(check, letter + "1;", 1, 2);
            fault(check, letter + "1 2", 1, 3);
            fault(check, letter + "1,,", 1, 3);
        }
    }

    @Edge(promise = 4, says = "s (SERVED)")
    static void stepsWithoutNumbers(Check check) {
        for (String letter : new String[] {"s", "l", "x"}) {
            fault(check, letter, 1, NONE);
            fault(check, letter + "0", 1, 1);
            fault(check, letter + ",", 1, 1);
        }
        fault(check, "b", 1, 0);
        fault(check, "t0", 1, 0);
    }

    @Edge(promise = 4, says = "(What a STEP tells that can't be is no FAULT.)")
    static void stepsThatCanNotBe(Check check) {
        fault(check, "p0;w9,0;m8;u9;c3,3;r9;a24;d99;l;x;s", 1, NONE);
    }

    // ---- promise 5

    @Edge(promise = 5, says = "What is read (empty then) is the HALL")
    static void nothingIsReadBehindIt(Check check) {
        SpoolHall x = new SpoolHall();
        Check.feed(x, "t;t");
        x.text(0);
        check.due("count(2)", x.count(2), 0);
        check.due("fault(0)", x.fault(0), 0);
        check.due("text(0) of nothing", x.text(0), NONE);
        check.due("the hall stays", x.count(0), 2);
        Check.feed(x, "s");
        x.text(1);
        check.due("count(2) behind a script", x.count(2), 0);
    }

    @Edge(promise = 5, says = "how many TAPES")
    static void oneToEight(Check check) {
        for (int tapes = 1; tapes <= 8; tapes++) {
            SpoolHall x = new SpoolHall();
            Check.feed(x, "t;".repeat(tapes - 1) + "t");
            check.due("text(0)", x.text(0), tapes);
            check.due("count(0)", x.count(0), tapes);
        }
    }

    @Edge(promise = 5, says = "NONE: a FAULT (it stays)")
    static void whatIsFaultyStays(Check check) {
        Edges.changesNothing(check, "text(0) of what is faulty", Edges.busy(x -> Check.feed(x, ";")), x -> x.text(0), NONE);
        Edges.changesNothing(check, "text(0) of nothing", Edges.busy(x -> x.end(0)), x -> x.text(0), NONE);
        Edges.changesNothing(check, "text(1) of what is faulty", Edges.busy(x -> { }), x -> x.text(1), NONE);
        Edges.changesNothing(check, "text(1) of nothing", Edges.busy(x -> x.end(0)), x -> x.text(1), NONE);
        Edges.changesNothing(check, "text(0) without a hall", () -> {
            SpoolHall x = new SpoolHall();
            Check.feed(x, "t;;");
            return x;
        }, x -> x.text(0), NONE);
    }

    @Edge(promise = 5, says = "NONE: a FAULT (it stays), no such sort")
    static void noSuchSort(Check check) {
        for (int sort : FAR_OUT) {
            Edges.changesNothing(check, "text(" + sort + ")", Edges.busy(x -> { }), x -> x.text(sort), NONE);
        }
        Edges.changesNothing(check, "text(2)", Edges.busy(x -> { }), x -> x.text(2), NONE);
    }

    private static SpoolHall withScripts(int n) {
        SpoolHall x = Check.hall("t;t;f");
        for (int i = 0; i < n; i++) {
            Check.tell(x, "p" + (i + 5) + ";s", 1);
        }
        return x;
    }

    @Edge(promise = 5, says = "there are four SCRIPTS")
    static void aFifthScript(Check check) {
        Edges.changesNothing(check, "text(1) of a fifth", () -> {
            SpoolHall x = withScripts(4);
            Check.feed(x, "s;x");
            return x;
        }, x -> x.text(1), NONE);
        SpoolHall x = withScripts(4);
        Check.feed(x, "p9");
        check.due("it is no fault", x.fault(1), NONE);
        x.end(0);
        Check.feed(x, "t");
        check.due("a hall can still be told", x.text(0), 1);
        check.due("four scripts stay", x.count(1), 4);
        Check.feed(x, "p9");
        check.due("a fifth of another hall", x.text(1), NONE);
    }

    @Edge(promise = 5, says = "a SCRIPT: its number")
    static void theFirstAndTheFourthScript(Check check) {
        for (int n = 0; n < 4; n++) {
            SpoolHall x = withScripts(n);
            Check.feed(x, "p50");
            check.due("text(1) of another one", x.text(1), n);
            check.due("its step", x.step(n, 0, 1), 50);
            check.due("the first is as it was", x.step(0, 0, 1), n == 0 ? 50 : 5);
        }
    }

    @Edge(promise = 5, says = "all that was of another one is gone but SCRIPTS, STATUS")
    static void theHallAheadIsGone(Check check) {
        SpoolHall x = Edges.busy(y -> { }).get();
        x.mount(1000);
        x.pause(0);
        x.copy(0, 0);
        x.end(0);
        Check.tell(x, "t;tu3;ft1b2", 0);
        int[] status = {1, 1, 1, 0};
        for (int what = 0; what < 4; what++) {
            check.due("status(" + what + ") stays", x.status(what), status[what]);
        }
        check.due("the script stays", x.step(0, 1, 0), 1);
        SpoolHall twin = new SpoolHall();
        Check.tell(twin, "a0;s", 1);
        Check.tell(twin, "t;tu3;ft1b2", 0);
        Edges.alike(check, "a hall behind another one", x, twin);
    }

    @Edge(promise = 5, says = "all that was of another one is gone but SCRIPTS, STATUS")
    static void turnsUndoingAndTheImageBeginAnew(Check check) {
        SpoolHall x = Check.hall("t;f;f");
        x.ask(0);
        x.ask(1);
        x.image();
        Check.tell(x, "t;f;f", 0);
        check.due("back() to a hall that is gone", x.back(), NONE);
        check.due("undo()", x.undo(), NONE);
        check.due("most(6)", x.most(6), 0);
        check.due("the first turn", x.ask(1), 1);
    }

    @Edge(promise = 5, says = "all that was of another one is gone but SCRIPTS, STATUS")
    static void headsAndMendedBlocksBeginAnew(Check check) {
        SpoolHall x = Check.hall("sg1;tu9;fb9");
        x.scan(0);
        check.due("head", x.tape(0, 2), 8);
        check.due("mended", x.tape(0, 5), 9);
        Check.tell(x, "t;fb2", 0);
        check.due("mended in the new hall", x.tape(0, 5), 0);
        check.due("wear in the new hall", x.tape(0, 4), 0);
        x.ask(0);
        check.due("from block 0", x.takes(0, 0), 2);
    }

    @Edge(promise = 5, says = "what can't be (no such TAPE, no room) is left out (it has no number)")
    static void filesOfNoSuchTape(Check check) {
        SpoolHall x = Check.hall("t;t;ft2b2;ft1b3;ft7b4;f");
        check.due("count(5)", x.count(5), 2);
        check.due("file(0, 0)", x.file(0, 0), 1);
        check.due("file(0, 2)", x.file(0, 2), 3);
        check.due("file(1, 0)", x.file(1, 0), 0);
        check.due("file(2, 0)", x.file(2, 0), HIDDEN);
        check.due("a file told ahead of its tape", Check.hall("ft1;t;t").file(0, 0), 1);
        check.due("none is there", Check.hall("ft1;t").count(5), 0);
    }

    @Edge(promise = 5, says = "what can't be (no such TAPE, no room) is left out (it has no number)")
    static void filesWithoutRoom(Check check) {
        SpoolHall full = Check.hall("sl4w1;t;fb3;f");
        check.due("the last block is room", full.count(5), 2);
        check.due("end", full.tape(0, 3), 4);
        SpoolHall x = Check.hall("sl4w1;t;t;fb3;fb2;f;f;ft1b5;ft1b4");
        check.due("count(5)", x.count(5), 3);
        check.due("file(1, 2): the one of two blocks is left out", x.file(1, 2), 1);
        check.due("file(1, 1)", x.file(1, 1), 3);
        check.due("file(2, 0): the one of five blocks is left out", x.file(2, 0), 1);
        check.due("file(2, 2)", x.file(2, 2), 4);
        check.due("room by rules told behind", Check.hall("t;fb9;fb9;sl4w2").count(5), 0);
        check.due("room by rules told behind", Check.hall("t;fb8;f;sl4w2").count(5), 1);
    }

    @Edge(promise = 5, says = "numbered as they come, 24 at most")
    static void all24Files(Check check) {
        SpoolHall x = Check.hall("sl16w6;t;t" + ";fb4".repeat(12) + ";ft1".repeat(12));
        check.due("count(5)", x.count(5), 24);
        check.due("file(11, 1)", x.file(11, 1), 44);
        check.due("file(12, 0)", x.file(12, 0), 1);
        check.due("file(23, 1)", x.file(23, 1), 11);
        check.due("file(24, 0)", x.file(24, 0), HIDDEN);
        check.due("all are known", x.most(5), 24);
    }

    @Edge(promise = 5, says = "without TIME, all KNOWN")
    static void aNewHallAtFirst(Check check) {
        SpoolHall x = Check.hall("t;t;fb3;fb2;ft1");
        int[] due = {0, 0, 0, 0, 3, 3, 0, 0, 1, NONE, 0};
        for (int what = 0; what < 11; what++) {
            check.due("most(" + what + ")", x.most(what), due[what]);
        }
        check.due("no acts", x.count(3), 0);
        check.due("nothing to undo", x.count(4), 0);
    }

    // ---- promise 38

    private static SpoolHall withSteps() {
        SpoolHall x = new SpoolHall();
        Check.tell(x, "x", 1);
        Check.tell(x, "s;".repeat(15) + "w9,8", 1);
        Check.tell(x, "p0;a99;c0,9;m9;l", 1);
        return x;
    }

    @Edge(promise = 38, says = "A STEP of a SCRIPT: 0 what")
    static void theFirstAndTheLastStep(Check check) {
        SpoolHall x = withSteps();
        check.due("step(0, 0, 0)", x.step(0, 0, 0), 10);
        check.due("step(1, 0, 0)", x.step(1, 0, 0), 1);
        check.due("step(1, 15, 0)", x.step(1, 15, 0), 2);
        check.due("step(1, 15, 1)", x.step(1, 15, 1), 9);
        check.due("step(1, 15, 2)", x.step(1, 15, 2), 8);
        check.due("step(2, 4, 0)", x.step(2, 4, 0), 7);
    }

    @Edge(promise = 38, says = "1, 2 its numbers (NONE: there are fewer)")
    static void noneOneOrTwoNumbers(Check check) {
        SpoolHall x = withSteps();
        int[][] due = {{9, 0, NONE}, {0, 99, NONE}, {6, 0, 9}, {4, 9, NONE}, {7, NONE, NONE}};
        for (int i = 0; i < due.length; i++) {
            for (int what = 0; what < 3; what++) {
                check.due("step(2, " + i + ", " + what + ")", x.step(2, i, what), due[i][what]);
            }
        }
    }

    @Edge(promise = 38, says = "HIDDEN: no such ones.")
    static void noSuchSteps(Check check) {
        int[][] none = {{3, 0, 0}, {-1, 0, 0}, {4, 0, 0}, {0, 1, 0}, {0, -1, 0}, {1, 16, 0}, {2, 5, 0}, {0, 0, 3},
            {0, 0, -1}, {1, 0, 3}, {Integer.MIN_VALUE, 0, 0}, {Integer.MAX_VALUE, 0, 0}, {0, Integer.MIN_VALUE, 0},
            {0, Integer.MAX_VALUE, 0}, {0, 0, Integer.MAX_VALUE}, {0, 0, Integer.MIN_VALUE}};
        for (int[] at : none) {
            Edges.changesNothing(check, "step(" + at[0] + ", " + at[1] + ", " + at[2] + ")", TextEdgesTest::withSteps,
                x -> x.step(at[0], at[1], at[2]), HIDDEN);
        }
        check.due("step(0, 0, 0) without scripts", new SpoolHall().step(0, 0, 0), HIDDEN);
    }
}
