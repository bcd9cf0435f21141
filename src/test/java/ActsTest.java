/** Promises 14 to 24: the acts, what each takes, what it leaves behind and when it is refused. */
public final class ActsTest {
    private static final int NONE = Check.NONE;
    private static final String HALL = "sn4d2l4w2m2a3g2i9;tk5;tk7u2;tk5;fb2;ft1b3;fb3;ft1";
    private static final Check check = new Check("ActsTest");

    public static void main(String[] args) {
        promise14();
        promise15();
        promise15Orders();
        promise16();
        promise17();
        promise18();
        promise19();
        promise20();
        promise20Edges();
        promise21();
        promise22();
        promise23();
        promise24();
        check.finish();
    }

    private static void statuses(SpoolHall x, int... due) {
        for (int what = 0; what < 4; what++) {
            check.due("status(" + what + ")", x.status(what), due[what]);
        }
    }

    private static void logged(SpoolHall x, int sort, int number, int time) {
        check.due("log(0, 0)", x.log(0, 0), sort);
        check.due("log(0, 1)", x.log(0, 1), number);
        check.due("log(0, 2)", x.log(0, 2), time);
    }

    private static void promise14() {
        SpoolHall x = Check.hall("t" + ";f".repeat(15));
        check.due("ask(15)", x.ask(15), NONE);
        check.due("ask(-1)", x.ask(-1), NONE);
        x.drop(14);
        check.due("ask of one dropped", x.ask(14), NONE);
        statuses(x, 3, 0, 0, 0);
        for (int i = 0; i < 12; i++) {
            check.due("ask", x.ask(12 - i), i + 1);
            logged(x, 0, 12 - i, 0);
        }
        check.due("ask of one asked for, ahead of too many", x.ask(5), NONE);
        statuses(x, 3, 0, 1, 0);
        check.due("a 13th", x.ask(0), NONE);
        statuses(x, 3, 0, 1, 1);
        check.due("most(6)", x.most(6), 12);
        x.drop(3);
        check.due("turns go on", x.ask(0), 13);
        x.lose();
        check.due("ask of one not known", x.ask(0), NONE);
        statuses(x, 3, 0, 2, 1);
        x.scan(0);
        check.due("turns go on behind a loss", x.ask(0), 14);
        check.due("undo()", x.undo() >= 0, true);
        check.due("a turn that was undone comes again", x.ask(1), 14);
    }

    private static void promise15() {
        SpoolHall x = Check.hall(HALL);
        check.due("serve() of nothing", x.serve(), NONE);
        statuses(x, 0, 0, 1, 0);
        x.ask(2);
        x.ask(1);
        x.ask(3);
        check.due("serve() of the tape with most", x.serve(), 1);
        check.due("time", x.most(0), 19);
        check.due("arm", x.most(1), 4);
        check.due("mended", x.tape(1, 5), 4);
        check.due("asked for", x.most(6), 1);
        logged(x, 1, 1, 19);
        x.write(2, 1);
        int time = x.most(0);
        x.ask(0);
        x.ask(4);
        check.due("serve() of one in a drive with fewer", x.serve(), 2);
        check.due("time of reading one block where the head is", x.most(0), time + 1);
        check.due("serve()", x.serve(), 0);
        check.due("nothing is asked for", x.most(6), 0);
        check.due("nothing mended at wear 1", x.tape(0, 5), 0);

        SpoolHall y = Check.hall("sd2;t;t;t;ft2;ft1;f");
        y.ask(0);
        y.ask(1);
        y.ask(2);
        check.due("of several the lowest", y.serve(), 0);
        y.mount(2);
        y.ask(2);
        check.due("of several in drives the lowest", y.serve(), 0);
        check.due("then the other in a drive", y.serve(), 2);
        check.due("then the one in its slot", y.serve(), 1);
    }

    /** Which order was taken is told by where the head is left. */
    private static void promise15Orders() {
        SpoolHall x = Check.hall("sl8w2;t;f;f;fb4;f;fb6;f;f;f");
        x.ask(3);
        x.ask(1);
        x.ask(5);
        x.ask(7);
        check.due("takes(0, 0)", x.takes(0, 0), 18);
        check.due("takes(0, 1)", x.takes(0, 1), 18);
        x.serve();
        check.due("order 0 ahead of 1: the last one has the highest start", x.tape(0, 2), 15);

        SpoolHall y = Check.hall("sl8w2;t;fb9;f;f;f");
        y.mount(0);
        y.ask(1);
        y.serve();
        check.due("head", y.tape(0, 2), 9);
        y.ask(3);
        y.ask(0);
        check.due("order 0: from 9 to 0, from 8 to 11", y.takes(0, 0), 6 + 2 + 9 + 3 + 1);
        check.due("order 1: from 9 to 11, from 11 to 0", y.takes(0, 1), 2 + 1 + 4 + 2 + 9);
        y.serve();
        check.due("order 1 taken", y.tape(0, 2), 8);
    }

    private static void promise16() {
        SpoolHall x = Check.hall(HALL);
        check.due("write(3, 1)", x.write(3, 1), NONE);
        check.due("write(-1, 0)", x.write(-1, 0), NONE);
        statuses(x, 2, 0, 0, 0);
        check.due("write(0, 0)", x.write(0, 0), NONE);
        check.due("write(0, 10): bounds ahead of room", x.write(0, 10), NONE);
        statuses(x, 2, 2, 0, 0);
        check.due("write(0, 4)", x.write(0, 4), NONE);
        statuses(x, 2, 2, 0, 1);
        check.due("write(0, 3)", x.write(0, 3), 4);
        check.due("mount, seek from 0 to 5, three blocks", x.most(0), 14 + 4 + 3);
        logged(x, 2, 0, 21);
        check.due("file(4, 0)", x.file(4, 0), 0);
        check.due("file(4, 1)", x.file(4, 1), 5);
        check.due("file(4, 2)", x.file(4, 2), 3);
        check.due("file(4, 3)", x.file(4, 3), 1);
        check.due("head", x.tape(0, 2), 7);
        check.due("end", x.tape(0, 3), 8);

        SpoolHall y = Check.hall("sl16;t" + ";f".repeat(23));
        check.due("a 24th", y.write(0, 1), 23);
        check.due("a 25th", y.write(0, 1), NONE);
        y.drop(0);
        check.due("a 25th, though one was dropped", y.write(0, 1), NONE);
        check.due("bounds ahead of too many", y.write(0, 0), NONE);
        statuses(y, 0, 1, 0, 2);
        check.due("count(5)", y.count(5), 24);

        SpoolHall z = Check.hall("sg1;tu5;f");
        z.write(0, 3);
        check.due("nothing is mended by writing", z.tape(0, 5), 0);
    }

    private static void promise17() {
        SpoolHall x = Check.hall(HALL);
        x.ask(1);
        check.due("drop(1)", x.drop(1), 3);
        logged(x, 3, 1, 0);
        check.due("asked for no more", x.most(6), 0);
        check.due("dead", x.tape(1, 8), 3);
        check.due("end stays", x.tape(1, 3), 4);
        check.due("files there", x.most(4), 3);
        check.due("known", x.most(5), 3);
        check.due("one that is gone is not known", x.file(1, 3), 0);
        check.due("drop(1) again", x.drop(1), NONE);
        check.due("drop(4)", x.drop(4), NONE);
        check.due("drop(-1)", x.drop(-1), NONE);
        statuses(x, 3, 0, 0, 0);
        x.lose();
        check.due("drop of one not known", x.drop(2), 3);
        check.due("undo()", x.undo(), 3);
        check.due("not known, as ahead of it", x.file(2, 3), 0);
        droppedByScriptsAndYears();
    }

    private static void droppedByScriptsAndYears() {
        SpoolHall x = Check.hall(HALL);
        Check.tell(x, "d0", 1);
        x.run(0, 0);
        check.due("a run of a script leaves it known", x.file(0, 3), 1);
        x.image();
        x.perform(0);
        check.due("dropped by a script", x.file(0, 3), 0);
        x.back();
        check.due("known again", x.file(0, 3), 1);
        int gone = 0;
        for (int seed = 0; seed < 9; seed++) {
            SpoolHall y = Check.hall(HALL);
            y.years(40, seed);
            int files = y.count(5);
            for (int file = 0; file < files; file++) {
                if (y.file(file, 0) == NONE) {
                    gone++;
                    check.due("dropped in years, file(" + file + ", 3)", y.file(file, 3), 0);
                }
            }
            check.due("known are all that are there", y.most(5), y.most(4));
        }
        check.due("some were dropped", gone > 0, true);
    }

    private static void promise18() {
        SpoolHall x = Check.hall(HALL);
        check.due("mount(1)", x.mount(1), 0);
        check.due("time", x.most(0), 14);
        logged(x, 4, 1, 14);
        check.due("wear", x.tape(1, 4), 3);
        check.due("head", x.tape(1, 2), 0);
        check.due("place", x.tape(1, 1), 4);
        check.due("mount(0)", x.mount(0), 1);
        check.due("time", x.most(0), 43);
        check.due("mount(2): that of 1 is used longest ago", x.mount(2), 0);
        check.due("time", x.most(0), 68);
        check.due("arm", x.most(1), 4);
        logged(x, 4, 2, 25);
        check.due("its slot", x.tape(1, 1), 1);
        check.due("mount(2) again", x.mount(2), NONE);
        statuses(x, 0, 0, 1, 0);
        check.due("mount(3)", x.mount(3), NONE);
        check.due("mount(-1)", x.mount(-1), NONE);
        statuses(x, 2, 0, 1, 0);
        x.scan(0);
        check.due("mount(1): reading is use", x.mount(1), 0);
        x.write(0, 1);
        x.scan(1);
        x.write(0, 1);
        check.due("mount(2): writing is use", x.mount(2), 0);

        SpoolHall y = Check.hall("tu98");
        y.mount(0);
        check.due("wear", y.tape(0, 4), 99);
        y.unmount(0);
        y.mount(0);
        check.due("wear stays 99", y.tape(0, 4), 99);
    }

    private static void promise19() {
        SpoolHall x = Check.hall(HALL);
        x.mount(1);
        x.scan(1);
        check.due("time", x.most(0), 18);
        check.due("unmount(1)", x.unmount(1), 0);
        check.due("time", x.most(0), 32);
        logged(x, 5, 1, 14);
        check.due("arm", x.most(1), 1);
        check.due("head", x.tape(1, 2), NONE);
        check.due("unmount(1) again", x.unmount(1), NONE);
        statuses(x, 0, 0, 1, 0);
        check.due("unmount(3)", x.unmount(3), NONE);
        check.due("unmount(-1)", x.unmount(-1), NONE);
        statuses(x, 2, 0, 1, 0);
        x.mount(0);
        x.mount(2);
        check.due("unmount(2)", x.unmount(2), 1);
        check.due("takes from block 0", x.seek(0, 7), 2);
    }

    private static void promise20() {
        SpoolHall x = Check.hall("sn5d1l4w3m2a1;t;tu3;t;fb3;fb2;fb4");
        x.ask(2);
        x.drop(1);
        x.lose();
        x.scan(0);
        x.unmount(0);
        x.ask(2);
        x.undo();
        x.lose();
        int time = x.most(0);
        check.due("copy(0, 2)", x.copy(0, 2), 2);
        check.due("time", x.most(0) - time, 40);
        logged(x, 6, 0, 40);
        check.due("file(0, 0)", x.file(0, 0), 2);
        check.due("file(2, 0)", x.file(2, 0), 2);
        check.due("file(2, 1)", x.file(2, 1), 3);
        check.due("known then", x.most(5), 2);
        check.due("end of the one", x.tape(0, 3), 0);
        check.due("end of the other", x.tape(2, 3), 7);
        check.due("dead of the other", x.tape(2, 8), 0);
        check.due("head of the other", x.tape(2, 2), 6);
        check.due("drive(0)", x.drive(0), 2);
        check.due("arm", x.most(1), 5);

        SpoolHall y = Check.hall("sd2g3;tu3;t;fb3;fb2");
        y.ask(1);
        y.scan(0);
        check.due("mended", y.tape(0, 5), 5);
        y.copy(0, 1);
        check.due("mended of the one", y.tape(0, 5), 0);
        check.due("mended of the other", y.tape(1, 5), 0);
        check.due("wear stays", y.tape(0, 4), 4);
        check.due("the turn stays", y.file(1, 4), 1);
        check.due("it is served there", y.serve(), 1);
    }

    private static void promise20Edges() {
        SpoolHall x = Check.hall("t;t;t;f;ft1;ft1");
        check.due("copy(0, 3)", x.copy(0, 3), NONE);
        check.due("copy(3, 0)", x.copy(3, 0), NONE);
        check.due("copy(-1, 0)", x.copy(-1, 0), NONE);
        check.due("copy(0, -1)", x.copy(0, -1), NONE);
        check.due("copy(7, 7)", x.copy(7, 7), NONE);
        statuses(x, 5, 0, 0, 0);
        check.due("copy(0, 0)", x.copy(0, 0), NONE);
        check.due("copy(2, 2)", x.copy(2, 2), NONE);
        check.due("copy(0, 1): it is not empty", x.copy(0, 1), NONE);
        check.due("copy(2, 0): no files", x.copy(2, 0), NONE);
        statuses(x, 5, 0, 4, 0);
        x.drop(0);
        check.due("copy(0, 2): all were dropped", x.copy(0, 2), NONE);
        check.due("copy(1, 0): dead blocks are no end 0", x.copy(1, 0), NONE);
        statuses(x, 5, 0, 6, 0);
        check.due("copy(1, 2)", x.copy(1, 2), 2);
        check.due("copy(2, 1) back", x.copy(2, 1), 2);
    }

    private static void promise21() {
        SpoolHall x = Check.hall(HALL);
        x.ask(0);
        x.drop(3);
        check.due("lose()", x.lose(), 3);
        logged(x, 7, NONE, 0);
        check.due("known", x.most(5), 0);
        check.due("asked for", x.most(6), 0);
        check.due("file(0, 4)", x.file(0, 4), 0);
        check.due("there", x.most(4), 3);
        check.due("lose() again", x.lose(), NONE);
        statuses(x, 0, 0, 1, 0);
        x.write(2, 1);
        check.due("a new one is known", x.lose(), 1);
        x.write(2, 1);
        x.drop(5);
        check.due("a dropped one is not counted", x.lose(), NONE);
        check.due("lose() without files", Check.hall("t").lose(), NONE);
    }

    private static void promise22() {
        SpoolHall x = Check.hall(HALL);
        x.lose();
        x.drop(0);
        check.due("scan(0)", x.scan(0), 1);
        check.due("mount and five blocks, dead ones too", x.most(0), 14 + 5);
        logged(x, 8, 0, 19);
        check.due("head", x.tape(0, 2), 4);
        check.due("known", x.most(5), 1);
        check.due("not known", x.file(1, 3), 0);
        check.due("scan(0) again: from 4 to 0, five blocks", x.scan(0), 0);
        check.due("time", x.most(0), 19 + 5 + 5);
        check.due("scan(2) of an empty one", x.scan(2), 0);
        int time = x.most(0);
        check.due("head of the empty one", x.tape(2, 2), 0);
        check.due("scan(2) again", x.scan(2), 0);
        check.due("no time", x.most(0), time);
        logged(x, 8, 2, 0);
        check.due("scan(3)", x.scan(3), NONE);
        check.due("scan(-1)", x.scan(-1), NONE);
        statuses(x, 2, 0, 0, 0);
        check.due("scan(1)", x.scan(1), 2);
        check.due("mended at wear 3 above 2", x.tape(1, 5), 4);
    }

    private static void promise23() {
        SpoolHall x = Check.hall(HALL);
        check.due("pause(0)", x.pause(0), NONE);
        check.due("pause(100)", x.pause(100), NONE);
        check.due("pause(-5)", x.pause(-5), NONE);
        statuses(x, 0, 3, 0, 0);
        check.due("pause(99)", x.pause(99), 0);
        check.due("time", x.most(0), 99);
        logged(x, 9, 99, 99);
        x.undo();
        x.mount(0);
        check.due("pause(9): nine ago is not more than nine", x.pause(9), 0);
        check.due("pause(1)", x.pause(1), 1);
        check.due("time", x.most(0), 38);
        logged(x, 9, 1, 15);

        SpoolHall y = Check.hall(HALL);
        y.mount(1);
        y.mount(0);
        check.due("pause(1): by the time ahead of all unmounting", y.pause(1), 1);
        check.due("time", y.most(0), 58);
        check.due("drive(1)", y.drive(1), 0);
        y.mount(1);
        check.due("pause(99)", y.pause(99), 2);
        check.due("numbers rising: the arm ends at the higher one", y.most(1), 1);
    }

    private static void promise24() {
        SpoolHall x = Check.hall("sn4d1g1m1;tu2;tu3;t;tu1;fb1;ft1b2");
        check.due("weak", x.most(3), 3);
        check.due("rescue()", x.rescue(), 2);
        check.due("to the least worn", x.file(0, 0), 2);
        check.due("to the least worn then", x.file(1, 0), 3);
        logged(x, 10, 2, x.most(0));
        check.due("one act", x.count(4), 1);

        SpoolHall y = Check.hall("sn4d1g1m1;tu2;tu3;t;fb1;ft1b2");
        check.due("rescue()", y.rescue(), 2);
        check.due("to the one that got empty", y.file(1, 0), 0);

        SpoolHall z = Check.hall("sg1;tu2;t;fb1;ft1");
        check.due("rescue() without a target", z.rescue(), NONE);
        statuses(z, 0, 0, 1, 0);
        SpoolHall none = Check.hall("sg2;tu2;tu9;fb1");
        check.due("rescue() of none weak", none.rescue(), NONE);
        statuses(none, 0, 0, 1, 0);
        check.due("nothing to undo", none.count(4), 0);
    }
}
