/** One test for each sentence of the promises that names no boundary case; for those that do see the EdgesTests. */
public final class AnswersTest {
    private static final int NONE = Check.NONE;

    public static void main(String[] args) {
        Edges.runAll(AnswersTest.class);
    }

    @Edge(promise = 7, says = "Of a TAPE: 0 LABEL, 1 PLACE, 2 HEAD (NONE: in its SLOT), 3 END, 4 WEAR, 5 MENDED, "
        + "6 how many FILES, 7 BLOCKS of these, 8 DEAD, 9 how many of them are ASKED for, "
        + "10 how long ago it was used last (NONE: in its SLOT).")
    static void allOfATape(Check check) {
        SpoolHall x = Check.hall("sl6w3g4i50;tk31;tk42u4;tk53u6;fb2;ft1b3;ft1b2;ft1b4;ft1b1");
        x.scan(1);
        x.scan(1);
        x.drop(3);
        x.ask(1);
        x.ask(4);
        x.pause(7);
        check.rows("in a drive", what -> x.tape(1, what), 42, 8, 9, 10, 5, 20, 3, 6, 4, 2, 7);
        check.rows("in its slot", what -> x.tape(2, what), 53, 2, NONE, 0, 6, 0, 0, 0, 0, 0, NONE);
    }

    @Edge(promise = 8, says = "Of a FILE: 0 TAPE (NONE: DROPPED), 1 START, 2 BLOCKS, 3 whether KNOWN (1, 0), "
        + "4 TURN (0 unless ASKED for).")
    static void allOfAFile(Check check) {
        SpoolHall x = Check.hall("t;t;t;t;f;ft3b7;ft3b5");
        x.ask(0);
        x.ask(2);
        check.rows("asked for", what -> x.file(2, what), 3, 7, 5, 1, 2);
        check.rows("not asked for", what -> x.file(1, what), 3, 0, 7, 1, 0);
        x.lose();
        check.rows("not known", what -> x.file(2, what), 3, 7, 5, 0, 0);
        x.drop(2);
        check.due("dropped", x.file(2, 0), NONE);
    }

    @Edge(promise = 9, says = "The TAPE in a DRIVE.")
    static void tapesInDrives(Check check) {
        SpoolHall x = Check.hall("sd3;t;t;t;t;t");
        x.mount(4);
        x.mount(2);
        check.rows("drive", x::drive, 4, 2, NONE);
        x.unmount(4);
        check.rows("drive", x::drive, NONE, 2, NONE);
    }

    @Edge(promise = 11, says = "How long the ARM goes from one PLACE to another one.")
    static void wayOfTheArm(Check check) {
        SpoolHall x = Check.hall("sn5d2a3m9;t;t");
        check.due("way(1, 6)", x.way(1, 6), 15);
        check.due("way(6, 1)", x.way(6, 1), 15);
        x.mount(1);
        check.due("a mount goes them", x.most(0), x.way(0, 1) + x.way(1, 5) + 9);
    }

    @Edge(promise = 12, says = "SEEK. NONE: no such BLOCKS, no HALL.")
    static void wayOfTheHead(Check check) {
        SpoolHall x = Check.hall("sl5w3;t;fb7");
        check.due("seek(6, 0)", x.seek(6, 0), 3 + 2);
        check.due("seek(0, 6)", x.seek(0, 6), 3 + 2);
        x.scan(0);
        x.unmount(0);
        check.due("unmounting goes it", x.log(0, 2), x.seek(6, 0) + 3 + 8);
        check.due("seek(15, 0)", x.seek(15, 0), NONE);
    }

    @Edge(promise = 14, says = "ASKED for: TURN.")
    static void askAnswersTheTurn(Check check) {
        SpoolHall x = Check.hall("t;f;f;f");
        check.due("ask(2)", x.ask(2), 1);
        check.due("ask(0)", x.ask(0), 2);
        check.rows("turn", file -> x.file(file, 4), 2, 0, 1);
    }

    @Edge(promise = 15, says = "SERVED: the TAPE.")
    static void serveAnswersTheTape(Check check) {
        SpoolHall x = Check.hall("sd2;t;t;t;t;ft3;ft2");
        x.ask(0);
        check.due("serve()", x.serve(), 3);
        x.ask(1);
        check.due("serve()", x.serve(), 2);
    }

    @Edge(promise = 16, says = "WRITTEN: the FILE.")
    static void writeAnswersTheFile(Check check) {
        SpoolHall x = Check.hall("t;t;f;f");
        check.due("write(1, 5)", x.write(1, 5), 2);
        x.drop(2);
        check.due("write(0, 5)", x.write(0, 5), 3);
        check.rows("tape", file -> x.file(file, 0), 0, 0, NONE, 0);
    }

    @Edge(promise = 23, says = "A PAUSE: how many are UNMOUNTED.")
    static void pauseAnswersHowMany(Check check) {
        SpoolHall x = Check.hall("sd3i20m1;t;t;t");
        x.mount(0);
        x.mount(1);
        x.mount(2);
        check.due("pause(1): 0 and 1 are not long enough in", x.pause(1), 1);
        check.due("pause(99)", x.pause(99), 2);
        check.due("pause(99)", x.pause(99), 0);
    }

    @Edge(promise = 25, says = "YEARS: TIME.")
    static void yearsAnswerTheTime(Check check) {
        SpoolHall x = Check.hall("t;t;f;f;ft1");
        x.pause(50);
        int time = x.years(40, 3);
        check.due("time", time, x.most(0));
        check.due("it went on", time > 50, true);
    }

    @Edge(promise = 26, says = "STATUS. NONE: no such what.")
    static void statusOfEachReason(Check check) {
        SpoolHall x = Check.hall("sl4w1;t;f");
        for (int i = 0; i < 4; i++) {
            x.drop(1);
        }
        x.pause(0);
        x.pause(100);
        x.pause(-1);
        x.serve();
        x.unmount(0);
        x.write(0, 4);
        check.rows("status", x::status, 4, 3, 2, 1, NONE);
    }

    @Edge(promise = 28, says = "The LOG, the latest (i 0), the one ahead of it (1) ..: 0 sort, 1 number, 2 TIME it took.")
    static void theLatestFirst(Check check) {
        SpoolHall x = Check.hall("t;t;t;fb2;ft2b3");
        x.ask(1);
        x.pause(40);
        x.serve();
        x.unmount(2);
        check.rows("log(0, ..)", what -> x.log(0, what), 5, 2, 2 + 3 + 6);
        check.rows("log(1, ..)", what -> x.log(1, what), 1, 2, 2 + 6 + 3 + 3);
        check.rows("log(2, ..)", what -> x.log(2, what), 9, 40, 40);
        check.rows("log(3, ..)", what -> x.log(3, what), 0, 1, 0);
    }

    @Edge(promise = 29, says = "TAKES of an ORDER (0 .. 2; 0, if none of its FILES is ASKED for).")
    static void takesByEachOrder(Check check) {
        SpoolHall x = Check.hall("sl8w1;t;t;fb2;fb2;fb2;ft1");
        x.ask(1);
        x.ask(0);
        check.rows("takes(0, ..)", order -> x.takes(0, order), 2 + 1 + 2, 2 + 1 + 2, 2 + 2 + 3 + 2, NONE);
        check.rows("takes(1, ..)", order -> x.takes(1, order), 0, 0, 0, NONE);
    }

    @Edge(promise = 31, says = "ALL: TIME (0), how often one would be MOUNTED (1), how many SERVINGS (2).")
    static void allOfThree(Check check) {
        SpoolHall x = Check.hall("sd2m4;t;t;t;fb2;ft1;ft2");
        x.mount(1);
        for (int file = 0; file < 3; file++) {
            x.ask(file);
        }
        int first = 1;
        int second = 8 + 9 + 4 + 2;
        int third = 4 + 1 + 7 + 1 + 6 + 4 + 1;
        check.rows("all", x::all, first + second + third, 2, 3);
    }

    @Edge(promise = 32, says = "The i-th TAPE that would be SERVED. NONE: no such one.")
    static void whoWouldBeServed(Check check) {
        SpoolHall x = Check.hall("t;t;t;f;ft1;ft2;ft2");
        x.mount(1);
        for (int file = 0; file < 4; file++) {
            x.ask(file);
        }
        check.rows("served", x::served, 1, 2, 0, NONE);
    }

    @Edge(promise = 34, says = "TARGET. NONE: none, no such TAPE, it has no FILES.")
    static void targetOrNone(Check check) {
        SpoolHall x = Check.hall("t;tu2;tu1;f");
        check.rows("target", x::target, 2, NONE, NONE, NONE);
        x.write(2, 1);
        check.rows("target", x::target, 1, NONE, 1);
        x.write(1, 1);
        check.rows("target", x::target, NONE, NONE, NONE);
    }

    @Edge(promise = 35, says = "CHEAP. NONE: none, BLOCKS not 1 .. 9.")
    static void cheapOrNone(Check check) {
        SpoolHall x = Check.hall("sl4w1a2;t;t;fb2;ft1");
        check.rows("cheap", x::cheap, NONE, 1, 1, 1, NONE);
        x.mount(0);
        check.rows("cheap", x::cheap, NONE, 0, 0, 1, NONE);
    }

    @Edge(promise = 37, says = "SHARES. NONE: no such TAPE, out of bounds.")
    static void sharesOfTapes(Check check) {
        SpoolHall x = Check.hall("t;t;fb2;ft1b5");
        check.rows("shares(.., 10)", tape -> x.shares(tape, 10), 2, 7, NONE);
        check.due("shares(0, 1000)", x.shares(0, 1000), NONE);
    }

    @Edge(promise = 38, says = "A STEP of a SCRIPT: 0 what (0 a, 1 s, 2 w, 3 d, 4 m, 5 u, 6 c, 7 l, 8 r, 9 p, 10 x), "
        + "1, 2 its numbers (NONE: there are fewer).")
    static void stepsByTheirNumbers(Check check) {
        SpoolHall x = new SpoolHall();
        Check.tell(x, "x;p49;r8;l;c6,7;u5;m4;d03;w1,2;s;a20", 1);
        check.rows("what", i -> x.step(0, i, 0), 10, 9, 8, 7, 6, 5, 4, 3, 2, 1, 0);
        check.rows("first", i -> x.step(0, i, 1), NONE, 49, 8, NONE, 6, 5, 4, 3, 1, NONE, 20);
        check.rows("second", i -> x.step(0, i, 2), NONE, NONE, NONE, NONE, 7, NONE, NONE, NONE, 2, NONE, NONE);
    }

    @Edge(promise = 39, says = "RUN: behind how many (0; NONE: all can be), TIME (1).")
    static void runOfTwoScripts(Check check) {
        SpoolHall x = Check.hall("t;f");
        Check.tell(x, "p5;a0;s;s", 1);
        Check.tell(x, "p5;l", 1);
        check.rows("run(0, ..)", what -> x.run(0, what), 3, 5 + 8 + 3 + 1);
        check.rows("run(1, ..)", what -> x.run(1, what), NONE, 5);
    }

    @Edge(promise = 41, says = "TIME (0), the PLACE of the ARM (1), TAPES in DRIVES (2, bits), WEAK ones (3, bits), "
        + "how many FILES there are that were not DROPPED (4), how many of them are KNOWN (5), ASKED for (6), "
        + "MENDED of all TAPES (7), the TAPE with most room behind END (8; of several the lowest), "
        + "the TAPE used longest ago of those in DRIVES (9; NONE: none is), empty TAPES (10, bits: END 0).")
    static void mostOfAll(Check check) {
        SpoolHall x = Check.hall("sn6d2l6w3m2g4;t;tu4;t;t;fb9;ft1b3;ft1b2;ft3b4;ft1;ft1");
        x.mount(2);
        x.drop(5);
        x.lose();
        x.scan(1);
        x.ask(1);
        x.ask(4);
        check.rows("most", x::most, 8 + 13 + 7, 7, 6, 2, 5, 3, 2, 7, 2, 2, 4, Check.HIDDEN);
    }

    @Edge(promise = 43, says = "BACK: TIME. NONE: no IMAGE of this HALL.")
    static void backAnswersTheTime(Check check) {
        SpoolHall x = Check.hall("t");
        check.due("back() without an image", x.back(), NONE);
        x.pause(7);
        check.due("image()", x.image(), 7);
        x.pause(5);
        check.due("back()", x.back(), 7);
        check.due("time", x.most(0), 7);
    }
}
