/** Promises 25 to 28 and 42 to 44: years, status, undoing, the log, images, counts. */
public final class PastTest {
    private static final int NONE = Check.NONE;
    private static final int HIDDEN = Check.HIDDEN;
    private static final Check check = new Check("PastTest");

    public static void main(String[] args) {
        for (long seed = -3; seed < 40; seed++) {
            promise25(seed * 1234567890123L, (int) (seed + 3) % 40 + 1);
        }
        promise25Edges();
        promise26();
        promise27();
        promise27Log();
        promise27LongLog();
        promise28();
        promise42And43();
        promise44();
        check.finish();
    }

    /** The same years, told call by call on a twin. */
    private static void promise25(long seed, int n) {
        String text = "sn5d2g2;t;tu1;t;t;t;fb3;ft1b2;fb4;ft1b9;ft2;ft2;fb2";
        SpoolHall x = Check.hall(text);
        SpoolHall twin = Check.hall(text);
        x.pause(7);
        twin.pause(7);
        long[] chance = {seed};
        int refused = 0;
        for (int i = 0; i < n; i++) {
            int sort = draw(chance, 8);
            if (sort < 3) {
                refused += twin.ask(draw(chance, 24)) == NONE ? 1 : 0;
            } else if (sort < 5) {
                refused += twin.serve() == NONE ? 1 : 0;
            } else if (sort == 5) {
                int tape = draw(chance, 5);
                refused += twin.write(tape, draw(chance, 9) + 1) == NONE ? 1 : 0;
            } else if (sort == 6) {
                refused += twin.drop(draw(chance, 24)) == NONE ? 1 : 0;
            } else {
                int tape = draw(chance, 5);
                refused += twin.target(tape) == NONE || twin.copy(tape, twin.target(tape)) == NONE ? 1 : 0;
            }
        }
        check.due("years(" + n + ", " + seed + ")", x.years(n, seed), twin.most(0));
        check.due("each is an act", x.count(3), n - refused + 1);
        for (int what = 0; what < 11; what++) {
            check.due("most(" + what + ")", x.most(what), twin.most(what));
        }
        for (int i = 0; i < twin.count(3); i++) {
            for (int what = 0; what < 3; what++) {
                check.due("log(" + i + ", " + what + ")", x.log(i, what), twin.log(i, what));
            }
        }
        for (int what = 0; what < 4; what++) {
            check.due("no status", x.status(what), 0);
        }
    }

    private static int draw(long[] chance, int bound) {
        chance[0] = chance[0] * 6364136223846793005L + 1442695040888963407L;
        return (int) ((chance[0] >>> 33) % bound);
    }

    private static void promise25Edges() {
        SpoolHall x = Check.hall("t;f");
        check.due("years(0, 1)", x.years(0, 1), NONE);
        check.due("years(41, 1)", x.years(41, 1), NONE);
        check.due("years(-1, 1)", x.years(-1, 1), NONE);
        check.due("no status", x.status(1), 0);
        check.due("years(40, 1)", x.years(40, 1) >= 0, true);
        check.due("no status of what can't be", x.status(0) + x.status(1) + x.status(2) + x.status(3), 0);
    }

    private static void promise26() {
        SpoolHall x = Check.hall("t;f");
        x.pause(0);
        x.serve();
        x.ask(5);
        x.ask(6);
        x.undo();
        x.pause(5);
        x.undo();
        check.due("status(0)", x.status(0), 2);
        check.due("status(1)", x.status(1), 1);
        check.due("status(2)", x.status(2), 1);
        check.due("status(3)", x.status(3), 0);
        check.due("status(4)", x.status(4), NONE);
        check.due("status(-1)", x.status(-1), NONE);
        x.image();
        x.pause(0);
        x.back();
        check.due("status is in no image", x.status(1), 2);
    }

    private static void promise27() {
        SpoolHall x = Check.hall("sd2g1;tu5;t;t;fb3;fb2;ft1b4");
        check.due("undo() of nothing", x.undo(), NONE);
        int[] before = picture(x);
        x.ask(1);
        x.mount(2);
        int[] between = picture(x);
        x.serve();
        x.write(1, 2);
        x.copy(0, 2);
        x.drop(2);
        x.lose();
        x.scan(2);
        x.pause(50);
        x.rescue();
        check.due("count(4)", x.count(4), 10);
        for (int left = 9; left >= 2; left--) {
            check.due("undo()", x.undo(), left);
        }
        same(x, between);
        x.pause(3);
        check.due("undo() of a new one", x.undo(), 2);
        same(x, between);
        x.undo();
        check.due("undo()", x.undo(), 0);
        same(x, before);
        check.due("undo() of none", x.undo(), NONE);
        same(x, before);
    }

    /** Nearly all that acts change in a hall with three tapes, in few calls, as an object has 512. */
    private static int[] picture(SpoolHall x) {
        int[] told = new int[70];
        int at = 0;
        for (int what = 0; what < 11; what++) {
            told[at++] = x.most(what);
        }
        for (int tape = 0; tape < 3; tape++) {
            for (int what = 1; what < 6; what++) {
                told[at++] = x.tape(tape, what);
            }
            told[at++] = x.tape(tape, 10);
        }
        for (int file = 0; file < 4; file++) {
            for (int what = 0; what < 5; what++) {
                told[at++] = x.file(file, what);
            }
        }
        for (int i = 0; i < 3; i++) {
            for (int what = 0; what < 3; what++) {
                told[at++] = x.log(i, what);
            }
        }
        told[at++] = x.count(3);
        told[at] = x.count(5);
        return told;
    }

    private static void same(SpoolHall x, int[] due) {
        int[] told = picture(x);
        for (int i = 0; i < due.length; i++) {
            check.due("row " + i + " of the picture", told[i], due[i]);
        }
    }

    private static void promise27Log() {
        SpoolHall x = Check.hall("t");
        for (int i = 1; i <= 90; i++) {
            x.pause(i);
            check.due("count(3)", x.count(3), Math.min(i, 60));
            check.due("count(4)", x.count(4), Math.min(i, 40));
        }
        check.due("log(59, 1)", x.log(59, 1), 31);
        check.due("log(60, 1)", x.log(60, 1), HIDDEN);
        for (int i = 1; i <= 40; i++) {
            check.due("undo()", x.undo(), 40 - i);
        }
        check.due("undo() of a 41st", x.undo(), NONE);
        check.due("count(3)", x.count(3), 50);
        check.due("log(0, 1)", x.log(0, 1), 50);
        check.due("log(49, 1)", x.log(49, 1), 1);
        check.due("log(50, 1)", x.log(50, 1), HIDDEN);
        check.due("time", x.most(0), 50 * 51 / 2);
    }

    /** What undoing brings back to the log is still told, however long it went on. */
    private static void promise27LongLog() {
        SpoolHall x = Check.hall("t");
        for (int i = 0; i < 291; i++) {
            x.pause(i % 97 + 1);
        }
        for (int i = 1; i <= 40; i++) {
            x.undo();
        }
        check.due("count(3)", x.count(3), 60);
        for (int i = 0; i < 60; i++) {
            check.due("log(" + i + ", 1)", x.log(i, 1), (250 - i) % 97 + 1);
        }
        check.due("log(60, 1)", x.log(60, 1), HIDDEN);
    }

    private static void promise28() {
        SpoolHall x = Check.hall("t;t;f");
        x.pause(5);
        x.ask(0);
        x.mount(9);
        x.serve();
        int[][] due = {{1, 0, 8 + 3 + 1}, {0, 0, 0}, {9, 5, 5}};
        for (int i = 0; i < 3; i++) {
            for (int what = 0; what < 3; what++) {
                check.due("log(" + i + ", " + what + ")", x.log(i, what), due[i][what]);
            }
        }
        check.due("log(3, 0)", x.log(3, 0), HIDDEN);
        check.due("log(-1, 0)", x.log(-1, 0), HIDDEN);
        check.due("log(0, 3)", x.log(0, 3), HIDDEN);
        check.due("log(0, -1)", x.log(0, -1), HIDDEN);
    }

    private static void promise42And43() {
        SpoolHall x = Check.hall("sd2g1;tu5;t;t;fb3;fb2;ft1b4");
        check.due("back() without an image", x.back(), NONE);
        x.ask(2);
        x.scan(0);
        int[] due = picture(x);
        check.due("image()", x.image(), x.most(0));
        check.due("no act", x.count(4), 2);
        x.serve();
        x.copy(0, 2);
        x.undo();
        x.undo();
        x.undo();
        x.pause(9);
        check.due("back()", x.back(), due[0]);
        same(x, due);
        check.due("no act can be undone", x.count(4), 0);
        check.due("undo()", x.undo(), NONE);
        x.drop(0);
        check.due("undo() of an act behind it", x.undo(), 0);
        same(x, due);
        x.rescue();
        check.due("back() again", x.back(), due[0]);
        same(x, due);
        x.pause(9);
        int[] later = picture(x);
        check.due("image() instead of it", x.image(), due[0] + 9);
        x.lose();
        x.back();
        same(x, later);
    }

    private static void promise44() {
        SpoolHall x = Check.hall("t;t;f;f;f");
        Check.tell(x, "s", 1);
        Check.feed(x, "t;t;t");
        x.drop(1);
        x.pause(1);
        x.undo();
        int[] due = {2, 1, 5, 1, 1, 3};
        for (int what = 0; what < 6; what++) {
            check.due("count(" + what + ")", x.count(what), due[what]);
        }
        check.due("count(6)", x.count(6), HIDDEN);
        check.due("count(-1)", x.count(-1), HIDDEN);
    }
}
