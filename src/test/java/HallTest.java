/** Promises 6 to 13: rules, tapes, files, drives, labels, ways of the arm and of the head. */
public final class HallTest {
    private static final int NONE = Check.NONE;
    private static final int HIDDEN = Check.HIDDEN;
    private static final String HALL = "sn4d2l4w2m2a3g2i9;tk5;tk7u2;tk5;fb2;ft1b3;fb3;ft1";
    private static final Check check = new Check("HallTest");

    public static void main(String[] args) {
        promise6();
        promise7();
        promise8();
        promise9();
        promise10();
        promise11();
        promise12("sl4w2;t", 4, 2);
        promise12("sl16w6;t", 16, 6);
        promise12("sl5w1;t", 5, 1);
        promise13();
        check.finish();
    }

    private static void rules(String text, int... due) {
        SpoolHall x = Check.hall(text);
        for (int what = 0; what < due.length; what++) {
            check.due("rule(" + what + ") of " + text, x.rule(what), due[what]);
        }
        check.due("rule(9)", x.rule(9), NONE);
        check.due("rule(-1)", x.rule(-1), NONE);
    }

    private static void promise6() {
        rules("t", 8, 1, 8, 4, 3, 1, 20, 30, 32);
        rules("t;s", 8, 1, 8, 4, 3, 1, 20, 30, 32);
        rules(HALL, 4, 2, 4, 2, 2, 3, 2, 9, 8);
        rules("si99g98a5m9w6l16d3n10;t", 10, 3, 16, 6, 9, 5, 98, 99, 96);
    }

    private static void tape(SpoolHall x, int tape, int... due) {
        for (int what = 0; what < due.length; what++) {
            check.due("tape(" + tape + ", " + what + ")", x.tape(tape, what), due[what]);
        }
    }

    private static void promise7() {
        SpoolHall x = Check.hall(HALL);
        tape(x, 0, 5, 0, NONE, 5, 0, 0, 2, 5, 0, 0, NONE);
        tape(x, 1, 7, 1, NONE, 4, 2, 0, 2, 4, 0, 0, NONE);
        tape(x, 2, 5, 2, NONE, 0, 0, 0, 0, 0, 0, 0, NONE);
        check.due("ask(1)", x.ask(1), 1);
        check.due("ask(3)", x.ask(3), 2);
        tape(x, 1, 7, 1, NONE, 4, 2, 0, 2, 4, 0, 2, NONE);
        check.due("serve()", x.serve(), 1);
        check.due("pause(3)", x.pause(3), 0);
        check.due("drop(1)", x.drop(1), 3);
        tape(x, 1, 7, 4, 3, 4, 3, 4, 1, 1, 3, 0, 3);
        check.dueThrow(x, 3, 0);
        check.dueThrow(x, -1, 0);
        check.dueThrow(x, 0, 11);
        check.dueThrow(x, 0, -1);
    }

    private static void file(SpoolHall x, int file, int... due) {
        for (int what = 0; what < due.length; what++) {
            check.due("file(" + file + ", " + what + ")", x.file(file, what), due[what]);
        }
    }

    private static void promise8() {
        SpoolHall x = Check.hall(HALL);
        file(x, 0, 0, 0, 2, 1, 0);
        file(x, 1, 1, 0, 3, 1, 0);
        file(x, 2, 0, 2, 3, 1, 0);
        file(x, 3, 1, 3, 1, 1, 0);
        x.ask(3);
        x.ask(2);
        file(x, 2, 0, 2, 3, 1, 2);
        x.drop(3);
        file(x, 3, NONE, HIDDEN, HIDDEN, 0, 0);
        x.scan(1);
        file(x, 3, NONE, HIDDEN, HIDDEN, 0, 0);
        x.copy(1, 2);
        file(x, 3, NONE, HIDDEN, HIDDEN, 0, 0);
        x.undo();
        x.undo();
        x.undo();
        file(x, 3, 1, 3, 1, 1, 1);
        x.lose();
        file(x, 2, 0, 2, 3, 0, 0);
        x.drop(2);
        file(x, 2, NONE, HIDDEN, HIDDEN, 0, 0);
        file(x, 4, HIDDEN, HIDDEN, HIDDEN, HIDDEN, HIDDEN);
        check.due("file(-1, 0)", x.file(-1, 0), HIDDEN);
        check.due("file(0, 5)", x.file(0, 5), HIDDEN);
        check.due("file(0, -1)", x.file(0, -1), HIDDEN);
    }

    private static void promise9() {
        SpoolHall x = Check.hall(HALL);
        x.mount(2);
        check.due("drive(0)", x.drive(0), 2);
        check.due("drive(1)", x.drive(1), NONE);
        x.mount(0);
        check.due("drive(1)", x.drive(1), 0);
        check.due("drive(2)", x.drive(2), NONE);
        check.due("drive(-1)", x.drive(-1), NONE);
        x.unmount(2);
        check.due("drive(0)", x.drive(0), NONE);
        check.due("mount(1) into the lowest", x.mount(1), 0);
    }

    private static void promise10() {
        SpoolHall x = Check.hall(HALL);
        check.due("labelled(5)", x.labelled(5), 0);
        check.due("labelled(7)", x.labelled(7), 1);
        check.due("labelled(0)", x.labelled(0), NONE);
        check.due("labelled(-1)", x.labelled(-1), NONE);
        check.due("labelled(0) without k", Check.hall("tk1;t;t").labelled(0), 1);
    }

    private static void promise11() {
        SpoolHall x = Check.hall(HALL);
        for (int place = -1; place < 8; place++) {
            for (int other = -1; other < 8; other++) {
                boolean such = place >= 0 && place < 6 && other >= 0 && other < 6;
                check.due("way(" + place + ", " + other + ")", x.way(place, other),
                    such ? 3 * Math.abs(place - other) : NONE);
            }
        }
    }

    private static void promise12(String text, int length, int wraps) {
        for (int block = -1; block <= length * wraps; block++) {
            SpoolHall x = Check.hall(text);
            for (int other = -1; other <= length * wraps; other++) {
                boolean such = block >= 0 && other >= 0 && block < length * wraps && other < length * wraps;
                check.due(text + " seek(" + block + ", " + other + ")", x.seek(block, other),
                    such ? seek(block, other, length) : NONE);
            }
        }
    }

    /** The spot by walking to and fro, block by block. */
    private static int spot(int block, int length) {
        int spot = 0;
        int by = 1;
        for (int i = 1; i <= block; i++) {
            if (i % length == 0) {
                by = -by;
            } else {
                spot += by;
            }
        }
        return spot;
    }

    private static int seek(int block, int other, int length) {
        int apart = Math.abs(spot(block, length) - spot(other, length));
        return apart + (block / length == other / length ? 0 : 2);
    }

    private static void promise13() {
        SpoolHall x = Check.hall("sl4w3;t;fb3;fb7");
        int[] spots = {3, 3, 2, 1, 0, 0, 1};
        int[] wraps = {0, 1, 1, 1, 1, 2, 2};
        for (int i = 0; i < 7; i++) {
            check.due("path(1, " + i + ", 0)", x.path(1, i, 0), spots[i]);
            check.due("path(1, " + i + ", 1)", x.path(1, i, 1), wraps[i]);
        }
        check.due("path(1, 7, 0)", x.path(1, 7, 0), NONE);
        check.due("path(1, -1, 0)", x.path(1, -1, 0), NONE);
        check.due("path(1, 0, 2)", x.path(1, 0, 2), NONE);
        check.due("path(1, 0, -1)", x.path(1, 0, -1), NONE);
        check.due("path(2, 0, 0)", x.path(2, 0, 0), NONE);
        check.due("path(-1, 0, 0)", x.path(-1, 0, 0), NONE);
        x.lose();
        check.due("path of one not known", x.path(0, 2, 0), 2);
        x.drop(0);
        check.due("path of one dropped", x.path(0, 2, 0), NONE);
    }
}
