import java.util.function.Supplier;
import java.util.function.ToIntFunction;

/** One test for each sentence of promises 6 to 13, and of "Terms" behind them, that names a boundary. */
public final class HallEdgesTest {
    private static final int NONE = Check.NONE;
    private static final int HIDDEN = Check.HIDDEN;
    private static final int LOW = Integer.MIN_VALUE;
    private static final int HIGH = Integer.MAX_VALUE;
    private static final int THROWN = -7777777;

    public static void main(String[] args) {
        Edges.runAll(HallEdgesTest.class);
    }

    private static Supplier<SpoolHall> busy() {
        return Edges.busy(x -> { });
    }

    private static void refused(Check check, String call, ToIntFunction<SpoolHall> asked, int answer) {
        Edges.changesNothing(check, call, busy(), asked, answer);
        Edges.changesNothing(check, call + " without a hall", Edges::empty, asked, answer);
    }

    // ---- promise 6

    @Edge(promise = 6, says = "0 SLOTS, 1 DRIVES, 2 LENGTH, 3 WRAPS, 4 MOUNT, 5 ARM, 6 WORN, 7 IDLE, as told")
    static void theLeastAndTheGreatestRules(Check check) {
        int[] least = {4, 1, 4, 1, 1, 1, 1, 1, 4};
        int[] greatest = {10, 3, 16, 6, 9, 5, 99, 99, 96};
        for (int what = 0; what < 9; what++) {
            check.due("least rule(" + what + ")", Check.hall("sn4d1l4w1m1a1g1i1;t").rule(what), least[what]);
            check.due("greatest rule(" + what + ")", Check.hall("t;sn10d3l16w6m9a5g99i99").rule(what), greatest[what]);
        }
    }

    @Edge(promise = 6, says = "8 BLOCKS of a TAPE")
    static void lengthTimesWraps(Check check) {
        for (int length = 4; length <= 16; length++) {
            for (int wraps = 1; wraps <= 6; wraps++) {
                String text = "sl" + length + "w" + wraps + ";t";
                check.due("rule(8) of " + text, Check.hall(text).rule(8), length * wraps);
            }
        }
        check.due("rule(8) without", Check.hall("t").rule(8), 32);
    }

    @Edge(promise = 6, says = "NONE: no HALL, no such what.")
    static void noSuchRules(Check check) {
        for (int what : new int[] {-1, 9, LOW, HIGH}) {
            refused(check, "rule(" + what + ")", x -> x.rule(what), NONE);
        }
        for (int what = 0; what < 9; what++) {
            int asked = what;
            Edges.changesNothing(check, "rule(" + what + ") without a hall", Edges::empty, x -> x.rule(asked), NONE);
        }
    }

    // ---- promise 7

    private static int tapeOrThrown(SpoolHall x, int tape, int what) {
        try {
            return x.tape(tape, what);
        } catch (java.util.NoSuchElementException e) {
            return THROWN;
        }
    }

    @Edge(promise = 7, says = "NoSuchElementException: no such ones.")
    static void noSuchTapes(Check check) {
        int[][] none = {{-1, 0}, {4, 0}, {8, 0}, {LOW, 0}, {HIGH, 0}, {0, -1}, {0, 11}, {3, 11}, {0, LOW}, {0, HIGH}};
        for (int[] at : none) {
            refused(check, "tape(" + at[0] + ", " + at[1] + ")", x -> tapeOrThrown(x, at[0], at[1]), THROWN);
        }
        Edges.changesNothing(check, "tape(0, 0) without a hall", Edges::empty, x -> tapeOrThrown(x, 0, 0), THROWN);
        check.dueThrow(Check.hall("t;t;t;t;t;t;t;t"), 8, 0);
        check.due("the eighth", Check.hall("t;t;t;t;t;t;t;tk9").tape(7, 0), 9);
        check.due("the last what", Check.hall("t").tape(0, 10), NONE);
    }

    @Edge(promise = 7, says = "1 PLACE")
    static void placesOfTheFirstAndTheLast(Check check) {
        SpoolHall x = Check.hall("sn8d3;t;t;t;t;t;t;t;t");
        check.due("slot of the first", x.tape(0, 1), 0);
        check.due("slot of the last", x.tape(7, 1), 7);
        x.mount(7);
        x.mount(0);
        x.mount(3);
        check.due("first drive", x.tape(7, 1), 8);
        check.due("second drive", x.tape(0, 1), 9);
        check.due("third drive", x.tape(3, 1), 10);
        x.unmount(7);
        check.due("its own slot again", x.tape(7, 1), 7);
        check.due("a drive behind ten slots", driveOf("sn10;t"), 10);
        check.due("a drive behind four slots", driveOf("sn4;t"), 4);
    }

    private static int driveOf(String text) {
        SpoolHall x = Check.hall(text);
        x.mount(0);
        return x.tape(0, 1);
    }

    @Edge(promise = 7, says = "2 HEAD (NONE: in its SLOT)")
    static void headsInSlotsAndAtBothEnds(Check check) {
        SpoolHall x = Check.hall("sl4w1;t;fb3");
        check.due("never mounted", x.tape(0, 2), NONE);
        x.mount(0);
        check.due("0, as it is mounted", x.tape(0, 2), 0);
        x.write(0, 1);
        check.due("at the last block of the tape", x.tape(0, 2), 3);
        x.unmount(0);
        check.due("in its slot", x.tape(0, 2), NONE);
        x.mount(0);
        check.due("0, as it is mounted again", x.tape(0, 2), 0);
    }

    @Edge(promise = 7, says = "END: how many are written (0 at first)")
    static void endsOfEmptyAndFullTapes(Check check) {
        SpoolHall x = Check.hall("sl4w1;t;t;fb4");
        check.due("full", x.tape(0, 3), 4);
        check.due("empty", x.tape(1, 3), 0);
        x.drop(0);
        check.due("dropping leaves it", x.tape(0, 3), 4);
        x.write(1, 4);
        check.due("written full", x.tape(1, 3), 4);
    }

    @Edge(promise = 7, says = "WEAR, MENDED (0 at first)")
    static void wearAndMendedAtFirst(Check check) {
        SpoolHall x = Check.hall("sg1;t;tu99;ft1b9");
        check.due("wear", x.tape(0, 4), 0);
        check.due("mended", x.tape(0, 5), 0);
        check.due("mended of a worn one", x.tape(1, 5), 0);
        check.due("wear of a worn one", x.tape(1, 4), 99);
    }

    @Edge(promise = 7, says = "6 how many FILES, 7 BLOCKS of these, 8 DEAD")
    static void noFilesSomeAndNoneLeft(Check check) {
        SpoolHall x = Check.hall("t;t;fb3;fb9;fb1");
        int[][] due = {{3, 13, 0}, {2, 4, 9}, {1, 1, 12}, {0, 0, 13}};
        int[] dropped = {1, 0, 2};
        for (int i = 0; i < due.length; i++) {
            for (int what = 0; what < 3; what++) {
                check.due("tape(0, " + (what + 6) + ") behind " + i, x.tape(0, what + 6), due[i][what]);
                check.due("tape(1, " + (what + 6) + ") of an empty one", x.tape(1, what + 6), 0);
            }
            if (i < dropped.length) {
                x.drop(dropped[i]);
            }
        }
        x.scan(0);
        check.due("files that are gone are not found again", x.tape(0, 6), 0);
    }

    @Edge(promise = 7, says = "9 how many of them are ASKED for")
    static void noneAskedForAndTwelve(Check check) {
        SpoolHall x = Check.hall("t;t" + ";f".repeat(13) + ";ft1");
        check.due("none", x.tape(0, 9), 0);
        for (int file = 0; file < 12; file++) {
            x.ask(file);
        }
        check.due("twelve", x.tape(0, 9), 12);
        check.due("none of the other", x.tape(1, 9), 0);
        x.drop(0);
        check.due("one dropped", x.tape(0, 9), 11);
        x.serve();
        check.due("served", x.tape(0, 9), 0);
    }

    @Edge(promise = 7, says = "10 how long ago it was used last (NONE: in its SLOT)")
    static void howLongAgo(Check check) {
        SpoolHall x = Check.hall("sd2i99;t;t;f");
        check.due("never used", x.tape(0, 10), NONE);
        x.mount(0);
        check.due("as it is mounted", x.tape(0, 10), 0);
        x.pause(1);
        check.due("1 behind it", x.tape(0, 10), 1);
        x.scan(0);
        check.due("as it is read", x.tape(0, 10), 0);
        x.pause(3);
        x.write(0, 1);
        check.due("as it is written", x.tape(0, 10), 0);
        int from = x.most(0);
        x.mount(1);
        check.due("while another one is mounted", x.tape(0, 10), x.most(0) - from);
        x.unmount(0);
        check.due("in its slot again", x.tape(0, 10), NONE);
    }

    @Edge(promise = 7, says = "(END 0: none)")
    static void readingNoneIsNoUse(Check check) {
        SpoolHall x = Check.hall("t");
        x.mount(0);
        x.pause(5);
        x.scan(0);
        check.due("reading none of it", x.tape(0, 10), 5);
    }

    // ---- promise 8

    @Edge(promise = 8, says = "HIDDEN: no such ones")
    static void noSuchFiles(Check check) {
        int[][] none = {{-1, 0}, {5, 0}, {5, 3}, {24, 0}, {LOW, 0}, {HIGH, 0}, {0, -1}, {0, 5}, {3, 5}, {0, LOW}, {0, HIGH}};
        for (int[] at : none) {
            refused(check, "file(" + at[0] + ", " + at[1] + ")", x -> x.file(at[0], at[1]), HIDDEN);
        }
        Edges.changesNothing(check, "file(0, 0) without a hall", Edges::empty, x -> x.file(0, 0), HIDDEN);
        SpoolHall x = Check.hall("t" + ";f".repeat(24));
        check.due("the 24th", x.file(23, 1), 23);
        for (int what = 0; what < 5; what++) {
            check.due("a 25th", x.file(24, what), HIDDEN);
        }
    }

    @Edge(promise = 8, says = "(1, 2 of one that was DROPPED, too)")
    static void ofOneThatWasDropped(Check check) {
        SpoolHall x = Check.hall("t;fb3;fb2");
        x.ask(1);
        x.drop(1);
        int[] due = {NONE, HIDDEN, HIDDEN, 0, 0};
        for (int what = 0; what < 5; what++) {
            check.due("file(1, " + what + ")", x.file(1, what), due[what]);
        }
        check.due("file(1, 5)", x.file(1, 5), HIDDEN);
        check.due("file(1, -1)", x.file(1, -1), HIDDEN);
        check.due("the one ahead stays", x.file(0, 2), 3);
    }

    @Edge(promise = 8, says = "1 START, 2 BLOCKS")
    static void theFirstAndTheLastBlock(Check check) {
        SpoolHall x = Check.hall("sl4w3;t;fb9;fb2;f");
        int[] starts = {0, 9, 11};
        int[] blocks = {9, 2, 1};
        for (int file = 0; file < 3; file++) {
            check.due("file(" + file + ", 1)", x.file(file, 1), starts[file]);
            check.due("file(" + file + ", 2)", x.file(file, 2), blocks[file]);
        }
    }

    @Edge(promise = 8, says = "4 TURN (0 unless ASKED for)")
    static void turnsOfThoseAskedFor(Check check) {
        SpoolHall x = Check.hall("t;f;f;f");
        check.due("not asked for", x.file(0, 4), 0);
        x.ask(2);
        x.ask(0);
        check.due("the first turn", x.file(2, 4), 1);
        check.due("the second", x.file(0, 4), 2);
        x.serve();
        check.due("served", x.file(2, 4), 0);
        x.ask(2);
        check.due("asked for again", x.file(2, 4), 3);
        x.lose();
        check.due("lost", x.file(2, 4), 0);
        check.due("not known", x.file(2, 3), 0);
    }

    // ---- promise 9

    @Edge(promise = 9, says = "NONE: none, no such DRIVE.")
    static void emptyDrivesAndNoSuch(Check check) {
        for (int drive : new int[] {-1, 2, 3, LOW, HIGH}) {
            refused(check, "drive(" + drive + ")", x -> x.drive(drive), NONE);
        }
        for (int drives = 1; drives <= 3; drives++) {
            SpoolHall x = Check.hall("sd" + drives + ";t;t;t;t");
            for (int drive = 0; drive < drives; drive++) {
                check.due("empty drive(" + drive + ")", x.drive(drive), NONE);
                x.mount(3 - drive);
            }
            for (int drive = 0; drive < drives; drive++) {
                check.due("drive(" + drive + ")", x.drive(drive), 3 - drive);
            }
            check.due("drive(" + drives + ")", x.drive(drives), NONE);
            x.unmount(3);
            check.due("emptied drive(0)", x.drive(0), NONE);
        }
    }

    // ---- promise 10

    @Edge(promise = 10, says = "The first TAPE with a LABEL.")
    static void theLeastAndTheGreatestLabel(Check check) {
        SpoolHall x = Check.hall("tk99;t;tk0;tk99;tk7");
        check.due("labelled(99)", x.labelled(99), 0);
        check.due("labelled(0)", x.labelled(0), 1);
        check.due("labelled(7), the last tape", x.labelled(7), 4);
    }

    @Edge(promise = 10, says = "NONE: none.")
    static void noSuchLabel(Check check) {
        for (int label : new int[] {-1, 2, 100, LOW, HIGH}) {
            refused(check, "labelled(" + label + ")", x -> x.labelled(label), NONE);
        }
        Edges.changesNothing(check, "labelled(0) without a hall", Edges::empty, x -> x.labelled(0), NONE);
        SpoolHall x = Check.hall("tk5;tk6");
        Check.tell(x, "tk5", 0);
        check.due("a label of a hall that is gone", x.labelled(6), NONE);
    }

    // ---- promise 11

    @Edge(promise = 11, says = "takes ARM times how far apart they are by number")
    static void fromAPlaceToItselfAndTheFarthest(Check check) {
        SpoolHall least = Check.hall("sn4d1a1;t");
        SpoolHall greatest = Check.hall("sn10d3a5;t");
        check.due("way(0, 0)", least.way(0, 0), 0);
        check.due("way(4, 4)", least.way(4, 4), 0);
        check.due("way(0, 4)", least.way(0, 4), 4);
        check.due("way(0, 12)", greatest.way(0, 12), 60);
        check.due("way(12, 0)", greatest.way(12, 0), 60);
        check.due("way(12, 11)", greatest.way(12, 11), 5);
    }

    @Edge(promise = 11, says = "NONE: no such ones.")
    static void noSuchPlaces(Check check) {
        int[][] none = {{-1, 0}, {0, -1}, {7, 0}, {0, 7}, {LOW, 0}, {0, LOW}, {HIGH, 0}, {0, HIGH}, {-1, -1}, {7, 7}};
        for (int[] at : none) {
            refused(check, "way(" + at[0] + ", " + at[1] + ")", x -> x.way(at[0], at[1]), NONE);
        }
        Edges.changesNothing(check, "way(0, 0) without a hall", Edges::empty, x -> x.way(0, 0), NONE);
        check.due("a slot without a tape", Check.hall("sn4;t").way(3, 0), 3);
        check.due("the last drive", busy().get().way(6, 6), 0);
    }

    // ---- promise 12

    @Edge(promise = 12, says = "NONE: no such BLOCKS, no HALL.")
    static void noSuchBlocks(Check check) {
        int[][] none = {{-1, 0}, {0, -1}, {12, 0}, {0, 12}, {LOW, 0}, {0, LOW}, {HIGH, 0}, {0, HIGH}, {12, 12}};
        for (int[] at : none) {
            refused(check, "seek(" + at[0] + ", " + at[1] + ")", x -> x.seek(at[0], at[1]), NONE);
        }
        Edges.changesNothing(check, "seek(0, 0) without a hall", Edges::empty, x -> x.seek(0, 0), NONE);
        check.due("the last of the fewest", Check.hall("sl4w1;t").seek(3, 3), 0);
        check.due("one behind the fewest", Check.hall("sl4w1;t").seek(4, 0), NONE);
        check.due("the last of the most", Check.hall("sl16w6;t").seek(95, 0), 2);
        check.due("one behind the most", Check.hall("sl16w6;t").seek(0, 96), NONE);
        SpoolHall x = Check.hall("sl16w6;t");
        Check.tell(x, "sl4w1;t", 0);
        check.due("a block of a hall that is gone", x.seek(0, 4), NONE);
    }

    @Edge(promise = 12, says = "and 2, if their WRAPS are unlike")
    static void whereWrapsTurn(Check check) {
        SpoolHall x = Check.hall("sl4w3;t");
        check.due("a block to itself", x.seek(5, 5), 0);
        check.due("the ends of a wrap", x.seek(0, 3), 3);
        check.due("the last of a wrap to the first of the next", x.seek(3, 4), 2);
        check.due("and back", x.seek(4, 3), 2);
        check.due("the end of an odd wrap to the next", x.seek(7, 8), 2);
        check.due("the same spot two wraps on", x.seek(1, 9), 2);
        check.due("the first to the end of the next wrap", x.seek(0, 7), 2);
        check.due("the first to the start of the next wrap", x.seek(0, 4), 5);
    }

    // ---- promise 13

    @Edge(promise = 13, says = "PATH of a FILE's i-th BLOCK: its SPOT (0), its WRAP (1).")
    static void fromTheFirstBlockToTheLast(Check check) {
        SpoolHall x = Check.hall("sl4w3;t;fb3;fb9");
        int[] spots = {3, 3, 2, 1, 0, 0, 1, 2, 3};
        int[] wraps = {0, 1, 1, 1, 1, 2, 2, 2, 2};
        for (int i = 0; i < 9; i++) {
            check.due("path(1, " + i + ", 0)", x.path(1, i, 0), spots[i]);
            check.due("path(1, " + i + ", 1)", x.path(1, i, 1), wraps[i]);
        }
        check.due("path(0, 0, 0)", x.path(0, 0, 0), 0);
    }

    @Edge(promise = 13, says = "NONE: no such ones.")
    static void noSuchPaths(Check check) {
        int[][] none = {{-1, 0, 0}, {5, 0, 0}, {3, 0, 0}, {LOW, 0, 0}, {HIGH, 0, 0}, {0, -1, 0}, {1, -1, 0}, {0, 3, 0},
            {2, 4, 1}, {4, 9, 0}, {0, LOW, 0}, {0, HIGH, 0}, {0, 0, -1}, {0, 0, 2}, {0, 0, LOW}, {0, 0, HIGH}};
        for (int[] at : none) {
            refused(check, "path(" + at[0] + ", " + at[1] + ", " + at[2] + ")", x -> x.path(at[0], at[1], at[2]), NONE);
        }
        Edges.changesNothing(check, "path(0, 0, 0) without a hall", Edges::empty, x -> x.path(0, 0, 0), NONE);
        check.due("the one block of the 24th", Check.hall("t" + ";f".repeat(24)).path(23, 0, 1), 2);
    }
}
