/** Promises 29 to 37 and 39 to 41: what would be, apart from what is; scripts run and done; most. */
public final class PlansTest {
    private static final int NONE = Check.NONE;
    private static final int HIDDEN = Check.HIDDEN;
    private static final Check check = new Check("PlansTest");

    public static void main(String[] args) {
        promise29();
        for (int seed = 1; seed < 30; seed++) {
            promise30(seed, seed % 7 + 1);
            promises31To33(seed);
            promise35(seed);
        }
        promise30Twelve();
        promises31To33Edges();
        promise34();
        promise35Edges();
        promise36();
        promise37();
        promises39And40();
        promise41();
        check.finish();
    }

    private static void promise29() {
        SpoolHall x = Check.hall("sl4w2d1;t;t;fb2;ft1b3;fb3");
        x.ask(2);
        x.ask(0);
        check.due("takes(0, 0)", x.takes(0, 0), 6);
        check.due("takes(0, 1)", x.takes(0, 1), 6);
        check.due("takes(0, 2): from 0 to 2, from 4 to 0", x.takes(0, 2), 2 + 3 + 5 + 2);
        x.write(0, 1);
        check.due("head", x.tape(0, 2), 5);
        check.due("takes(0, 0) from 5: to 0, from 1 to 2", x.takes(0, 0), 4 + 2 + 1 + 3);
        check.due("takes(0, 1) from 5: to 2, from 4 to 0", x.takes(0, 1), 2 + 3 + 5 + 2);
        x.unmount(0);
        check.due("takes(0, 0) in its slot", x.takes(0, 0), 6);
        check.due("takes(1, 2) of nothing", x.takes(1, 2), 0);
        check.due("takes(2, 0)", x.takes(2, 0), NONE);
        check.due("takes(-1, 0)", x.takes(-1, 0), NONE);
        check.due("takes(0, 3)", x.takes(0, 3), NONE);
        check.due("takes(0, -1)", x.takes(0, -1), NONE);
        check.due("least(2)", x.least(2), NONE);
        check.due("least(-1)", x.least(-1), NONE);
        check.due("least(1)", x.least(1), 0);
    }

    private static SpoolHall filled(int seed, int tapes, int asked) {
        java.util.Random chance = new java.util.Random(seed);
        StringBuilder text = new StringBuilder("sn9d" + (seed % 3 + 1) + "l" + (seed % 9 + 5) + "w6a2");
        for (int i = 0; i < tapes; i++) {
            text.append(";t");
        }
        for (int i = 0; i < 16; i++) {
            text.append(";ft").append(chance.nextInt(tapes)).append("b").append(chance.nextInt(4) + 1);
        }
        SpoolHall x = Check.hall(text.toString());
        for (int i = 0; i < 4 && seed % 4 != 0; i++) {
            x.ask(chance.nextInt(16));
            x.serve();
        }
        for (int i = 0; i < 100 && x.most(6) < asked; i++) {
            x.ask(chance.nextInt(x.count(5)));
        }
        return x;
    }

    /** By trying all rows. */
    private static void promise30(int seed, int asked) {
        SpoolHall x = filled(seed, 1, asked);
        int count = 0;
        int[] files = new int[24];
        for (int file = 0; file < x.count(5); file++) {
            if (x.file(file, 4) > 0) {
                files[count++] = file;
            }
        }
        int[] starts = new int[count];
        int[] blocks = new int[count];
        for (int i = 0; i < count; i++) {
            starts[i] = x.file(files[i], 1);
            blocks[i] = x.file(files[i], 2);
        }
        int length = x.rule(2);
        int due = leastOf(Math.max(x.tape(0, 2), 0), 0, starts, blocks, length);
        check.due("least(0) of seed " + seed, x.least(0), due);
        for (int order = 0; order < 3; order++) {
            check.due("no order takes less", x.takes(0, order) >= due, true);
        }
    }

    private static int leastOf(int head, int done, int[] starts, int[] blocks, int length) {
        int least = done == (1 << starts.length) - 1 ? 0 : 1000000;
        for (int i = 0; i < starts.length; i++) {
            if ((done >> i & 1) == 0) {
                int rest = leastOf(starts[i] + blocks[i] - 1, done | 1 << i, starts, blocks, length);
                least = Math.min(least, seek(head, starts[i], length) + blocks[i] + rest);
            }
        }
        return least;
    }

    private static int seek(int block, int other, int length) {
        return Math.abs(spot(block, length) - spot(other, length)) + (block / length == other / length ? 0 : 2);
    }

    private static int spot(int block, int length) {
        return block / length % 2 == 0 ? block % length : length - 1 - block % length;
    }

    private static void promise30Twelve() {
        SpoolHall x = Check.hall("sl16w1;t" + ";f".repeat(12));
        for (int file = 11; file >= 0; file--) {
            x.ask(file);
        }
        check.due("least(0) of twelve", x.least(0), 11 + 12);
        x.scan(0);
        check.due("least(0) from the far end", x.least(0), 11 + 12);
        check.due("takes(0, 0) from the far end", x.takes(0, 0), 11 + 11 + 12);
        check.due("takes(0, 2) from the far end", x.takes(0, 2), 11 + 12);
        SpoolHall y = Check.hall("sl8w2;t;f;f;fb4;f;fb6;f;f;f");
        y.ask(3);
        y.ask(1);
        y.ask(5);
        y.ask(7);
        check.due("least below all three orders", y.least(0), 16);
    }

    /** By serving a hall, then undoing it. */
    private static void promises31To33(int seed) {
        SpoolHall x = filled(seed, 6, 10);
        int time = x.all(0);
        int mounts = x.all(1);
        int servings = x.all(2);
        int[] tapes = new int[8];
        int[] soon = new int[24];
        int[] homes = new int[24];
        for (int i = 0; i < 8; i++) {
            tapes[i] = x.served(i);
        }
        for (int file = 0; file < 24; file++) {
            soon[file] = x.soon(file);
            homes[file] = x.file(file, 4) > 0 ? x.file(file, 0) : NONE;
        }
        int from = x.most(0);
        int wear = wears(x);
        int served = 0;
        while (x.most(6) > 0) {
            int tape = x.serve();
            check.due("served(" + served + ")", tapes[served], tape);
            served++;
            for (int file = 0; file < 24; file++) {
                if (homes[file] == tape) {
                    check.due("soon(" + file + ")", soon[file], served);
                }
            }
        }
        check.due("all(0)", time, x.most(0) - from);
        check.due("all(1)", mounts, wears(x) - wear);
        check.due("all(2)", servings, served);
        check.due("served() behind the last", tapes[served], NONE);
        for (int file = 0; file < 24; file++) {
            check.due("soon(" + file + ") of one not asked for", homes[file] == NONE, soon[file] == NONE);
        }
    }

    private static int wears(SpoolHall x) {
        int sum = 0;
        for (int tape = 0; tape < x.count(0); tape++) {
            sum += x.tape(tape, 4);
        }
        return sum;
    }

    private static void promises31To33Edges() {
        SpoolHall x = Check.hall("t;f;f");
        for (int what = 0; what < 3; what++) {
            check.due("all(" + what + ") of nothing", x.all(what), 0);
        }
        check.due("all(3)", x.all(3), NONE);
        check.due("all(-1)", x.all(-1), NONE);
        check.due("served(0) of nothing", x.served(0), NONE);
        check.due("soon(0)", x.soon(0), NONE);
        x.ask(0);
        check.due("soon(0)", x.soon(0), 1);
        check.due("served(0)", x.served(0), 0);
        check.due("served(-1)", x.served(-1), NONE);
        check.due("served(1)", x.served(1), NONE);
        check.due("soon(2)", x.soon(2), NONE);
        check.due("soon(-1)", x.soon(-1), NONE);
        x.drop(0);
        check.due("soon of one dropped", x.soon(0), NONE);
        check.due("time stays", x.most(0), 0);
        check.due("no acts", x.count(3), 2);
    }

    private static void promise34() {
        SpoolHall x = Check.hall("t;tu5;tu3;tu3;t;f;ft4");
        check.due("target(0): least wear, the lowest", x.target(0), 2);
        check.due("target(1) without files", x.target(1), NONE);
        check.due("target(5)", x.target(5), NONE);
        check.due("target(-1)", x.target(-1), NONE);
        x.write(2, 1);
        check.due("target(0)", x.target(0), 3);
        x.write(3, 1);
        check.due("target(0)", x.target(0), 1);
        x.drop(0);
        check.due("target(0): all were dropped", x.target(0), NONE);
        x.write(1, 1);
        check.due("target(4): none is empty", x.target(4), NONE);
    }

    /** By writing on each tape, then undoing it. */
    private static void promise35(int seed) {
        SpoolHall x = filled(seed, 7, 3);
        int blocks = seed % 9 + 1;
        int due = NONE;
        int least = 0;
        int cheap = x.cheap(blocks);
        int from = x.most(0);
        for (int tape = 0; tape < 7; tape++) {
            if (x.write(tape, blocks) != NONE) {
                int time = x.most(0) - from;
                if (due == NONE || time < least) {
                    due = tape;
                    least = time;
                }
                x.undo();
            }
        }
        check.due("cheap(" + blocks + ") of seed " + seed, cheap, due);
    }

    private static void promise35Edges() {
        SpoolHall x = Check.hall("sl4w2a1;tk1;t;t;fb7;ft1b8");
        check.due("cheap(1)", x.cheap(1), 2);
        check.due("cheap(0)", x.cheap(0), NONE);
        check.due("cheap(10)", x.cheap(10), NONE);
        check.due("cheap(9): no room", x.cheap(9), NONE);
        check.due("of several the lowest", Check.hall("sd1n4;t;t").cheap(1), 0);
        check.due("no status", x.status(1) + x.status(3), 0);
        check.due("cheap with 24 files", Check.hall("sl16;t" + ";f".repeat(24)).cheap(1), NONE);
    }

    private static void promise36() {
        SpoolHall x = Check.hall("sn4d2l4w2m2a3g2i9;t;t;t");
        check.due("idle(99) of none in drives", x.idle(99), 0);
        x.mount(1);
        x.mount(0);
        check.due("idle(1): used at 14, at 43, now 43", x.idle(1), 2);
        check.due("idle(9)", x.idle(9), 2);
        check.due("idle(10)", x.idle(10), 3);
        check.due("idle(0)", x.idle(0), NONE);
        check.due("idle(100)", x.idle(100), NONE);
        check.due("idle(99)", x.idle(99), 3);
        check.due("nothing changes", x.most(0), 43);
        check.due("no status", x.status(1), 0);
        check.due("pause(10)", x.pause(10), 2);
    }

    private static void promise37() {
        SpoolHall x = Check.hall("t;t;t;fb3;ft1b4;f");
        check.due("shares(0, 999)", x.shares(0, 999), 999 * 4 / 8);
        check.due("shares(1, 999)", x.shares(1, 999), 499);
        check.due("shares(1, 3)", x.shares(1, 3), 1);
        check.due("shares(2, 9)", x.shares(2, 9), 0);
        check.due("shares(0, 0)", x.shares(0, 0), 0);
        check.due("shares(0, 1000)", x.shares(0, 1000), NONE);
        check.due("shares(0, -1)", x.shares(0, -1), NONE);
        check.due("shares(3, 1)", x.shares(3, 1), NONE);
        check.due("shares(-1, 1)", x.shares(-1, 1), NONE);
        x.drop(1);
        check.due("shares(0, 7)", x.shares(0, 7), 7);
        x.drop(0);
        x.drop(2);
        check.due("shares of nothing", x.shares(0, 7), 0);
    }

    private static void promises39And40() {
        SpoolHall x = new SpoolHall();
        check.due("script", Check.tell(x, "a0;s;m0;u0", 1), 0);
        check.due("script", Check.tell(x, "p9;w0,2;c0,1;r1;l;d0;d9", 1), 1);
        check.due("script", Check.tell(x, "p1;p2;p30", 1), 2);
        check.due("script", Check.tell(x, "w9,1", 1), 3);
        check.due("run without a hall", x.run(0, 0), HIDDEN);
        check.due("perform without a hall", x.perform(0), NONE);
        Check.tell(x, "t;t;f", 0);
        x.pause(4);
        check.due("run(0, 0)", x.run(0, 0), 2);
        check.due("run(0, 1)", x.run(0, 1), 4 + 8 + 3 + 1);
        check.due("run(2, 0): all can be", x.run(2, 0), NONE);
        check.due("run(2, 1)", x.run(2, 1), 4 + 33);
        check.due("run(3, 0)", x.run(3, 0), 0);
        check.due("run(3, 1)", x.run(3, 1), 4);
        check.due("run(0, 2)", x.run(0, 2), HIDDEN);
        check.due("run(0, -1)", x.run(0, -1), HIDDEN);
        check.due("run(4, 0)", x.run(4, 0), HIDDEN);
        check.due("run(-1, 0)", x.run(-1, 0), HIDDEN);
        check.due("nothing was done", x.most(0), 4);
        check.due("perform(4)", x.perform(4), NONE);
        check.due("perform(-1)", x.perform(-1), NONE);
        int time = x.run(1, 1);
        check.due("run(1, 0)", x.run(1, 0), 6);
        check.due("perform(1)", x.perform(1), 6);
        check.due("time", x.most(0), time);
        check.due("each step an act", x.count(4), 7);
        int[] sorts = {3, 7, 8, 6, 2, 9, 9};
        for (int i = 0; i < 7; i++) {
            check.due("log(" + i + ", 0)", x.log(i, 0), sorts[i]);
        }
        check.due("perform(3)", x.perform(3), 0);
        check.due("perform(2)", x.perform(2), 3);
        for (int what = 0; what < 4; what++) {
            check.due("no status", x.status(what), 0);
        }
    }

    private static void promise41() {
        SpoolHall x = Check.hall("sn6d2g1;tu2;t;tu9;t;fb3;fb2;ft1b5;ft3b5");
        int[] first = {0, 0, 0, 1, 4, 4, 0, 0, 2, NONE, 4};
        for (int what = 0; what < first.length; what++) {
            check.due("most(" + what + ")", x.most(what), first[what]);
        }
        x.mount(3);
        x.ask(1);
        x.ask(2);
        x.serve();
        x.scan(3);
        x.drop(0);
        int[] then = {x.most(0), 7, 9, 1, 3, 3, 1, 2, 2, 0, 4};
        for (int what = 0; what < then.length; what++) {
            check.due("most(" + what + ")", x.most(what), then[what]);
        }
        x.lose();
        check.due("most(5)", x.most(5), 0);
        x.write(2, 7);
        check.due("most(8): of several the lowest", x.most(8), 0);
        check.due("most(9)", x.most(9), 3);
        check.due("most(10)", x.most(10), 0);
        check.due("most(11)", x.most(11), HIDDEN);
        check.due("most(-1)", x.most(-1), HIDDEN);
    }
}
