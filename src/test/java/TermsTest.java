import java.math.BigInteger;
import java.util.List;
import java.util.function.ToIntFunction;

/** One test for each sentence of "Terms" that names no boundary case; for those that do see the EdgesTests. */
public final class TermsTest {
    private static final int NONE = Check.NONE;
    private static final int HIDDEN = Check.HIDDEN;
    private static final String DIGITS = "0123456789";
    private static final String STEPS = "aswdmuclrpx";

    public static void main(String[] args) {
        Edges.runAll(TermsTest.class);
    }

    // ---- part 1: texts

    @Edge(promise = 4, says = "A HALL is a TEXT: CLAUSES with ; between:")
    static void clausesWithASignBetween(Check check) {
        String[] texts = {"t;t", "tt", "t t", "t,t", "t;;t", ";t", "t;", "tk1;fb2;sn5", "tk1fb2", "t;f;s"};
        int[] faults = {NONE, 1, 2, 1, 2, 0, 2, NONE, 3, NONE};
        for (int i = 0; i < texts.length; i++) {
            check.due("fault of '" + texts[i] + "'", Check.faultOf(texts[i], 0), faults[i]);
        }
    }

    /** Of all bytes behind a text that can go on, those with which it still can, and no others. */
    private static void follow(Check check, int sort, String text, String right) {
        int behind = text.length() + 1;
        for (int sign = 1; sign < 256; sign++) {
            int fault = Check.faultOf(text + (char) sign, sort);
            String call = "'" + text + "' and byte " + sign + ", fault " + fault;
            if (right.indexOf(sign) >= 0) {
                check.due(call + " is none or its length", fault == NONE || fault == behind, true);
            } else {
                check.due(call, fault, text.length());
            }
        }
    }

    @Edge(promise = 4, says = "FAULT: the first byte at which no such TEXT can go on")
    static void whatMayFollowInAHall(Check check) {
        follow(check, 0, "", " stf");
        follow(check, 0, "t", " ;ku");
        follow(check, 0, "tk", " " + DIGITS);
        follow(check, 0, "tk1", " ;u" + DIGITS);
        follow(check, 0, "tk12", " ;u");
        follow(check, 0, "tk1 ", " ;u");
        follow(check, 0, "tk1u2", " ;" + DIGITS);
        follow(check, 0, "tk1;", " stf");
        follow(check, 0, "s", " ;ndlwmagi");
        follow(check, 0, "s;", " tf");
        follow(check, 0, "sn", " 456789");
        follow(check, 0, "sn4", " ;dlwmagi");
        follow(check, 0, "sd", " 123");
        follow(check, 0, "sl", " 456789");
        follow(check, 0, "sw", " 123456");
        follow(check, 0, "sm", " 123456789");
        follow(check, 0, "sa", " 12345");
        follow(check, 0, "sg", " 123456789");
        follow(check, 0, "sg9", " ;ndlwmai" + DIGITS);
        follow(check, 0, "si9", " ;ndlwmag" + DIGITS);
        follow(check, 0, "sm3n10i99", " ;dlwag");
        follow(check, 0, "f", " ;tb");
        follow(check, 0, "ft", " 01234567");
        follow(check, 0, "ft7", " ;b");
        follow(check, 0, "ft0", " ;b01234567");
        follow(check, 0, "fb", " 123456789");
        follow(check, 0, "fb3t1", " ;");
        follow(check, 0, "t;t;t;t;t;t;t;t;", " sf");
        follow(check, 0, "t" + ";f".repeat(24) + ";", " st");
        follow(check, 0, "s;t;t;t;t;t;t;t;t" + ";f".repeat(24) + ";", " ");
    }

    @Edge(promise = 4, says = "SCRIPTS (4 at most) are TEXTS: STEPS with ; between, 1 to 16:")
    static void whatMayFollowInAScript(Check check) {
        follow(check, 1, "", " " + STEPS);
        follow(check, 1, "s;", " " + STEPS);
        for (String number : List.of("a", "d", "p")) {
            follow(check, 1, number, " " + DIGITS);
            follow(check, 1, number + "9", " ;" + DIGITS);
            follow(check, 1, number + "99", " ;");
            follow(check, 1, number + "9 ", " ;");
        }
        for (String digit : List.of("m", "u", "r")) {
            follow(check, 1, digit, " " + DIGITS);
            follow(check, 1, digit + "0", " ;");
        }
        for (String pair : List.of("w", "c")) {
            follow(check, 1, pair, " " + DIGITS);
            follow(check, 1, pair + "0", " ,");
            follow(check, 1, pair + "0 ", " ,");
            follow(check, 1, pair + "0,", " " + DIGITS);
            follow(check, 1, pair + "0,9", " ;");
        }
        for (String bare : List.of("s", "l", "x")) {
            follow(check, 1, bare, " ;");
        }
        follow(check, 1, "s" + ";s".repeat(14), " ;");
        follow(check, 1, "s" + ";s".repeat(15), " ");
    }

    /** A step that is done leaves all as the call does that it stands for. */
    private static void standsFor(Check check, String step, ToIntFunction<SpoolHall> act) {
        SpoolHall one = Edges.busy(x -> Check.tell(x, step, 1)).get();
        SpoolHall twin = Edges.busy(x -> Check.tell(x, step, 1)).get();
        check.due(step + " done", one.perform(1), 1);
        check.due(step + " called", act.applyAsInt(twin) != NONE, true);
        Edges.alike(check, step, one, twin);
    }

    @Edge(promise = 40, says = "a and a number (FILE: ASKED for)")
    static void stepOfAsking(Check check) {
        standsFor(check, "a4", x -> x.ask(4));
    }

    @Edge(promise = 40, says = "s (SERVED)")
    static void stepOfServing(Check check) {
        standsFor(check, "s", SpoolHall::serve);
    }

    @Edge(promise = 40, says = "w and a digit, ,, a digit (on that TAPE so many BLOCKS are WRITTEN)")
    static void stepOfWriting(Check check) {
        standsFor(check, "w2,3", x -> x.write(2, 3));
    }

    @Edge(promise = 40, says = "d and a number (FILE: DROPPED)")
    static void stepOfDropping(Check check) {
        standsFor(check, "d2", x -> x.drop(2));
    }

    @Edge(promise = 40, says = "m, u, each with a digit (TAPE: MOUNTED, UNMOUNTED)")
    static void stepsOfMounting(Check check) {
        standsFor(check, "m2", x -> x.mount(2));
        standsFor(check, "u1", x -> x.unmount(1));
    }

    @Edge(promise = 40, says = "c and two digits with , between (TAPES: the one is COPIED to the other)")
    static void stepOfCopying(Check check) {
        standsFor(check, "c3,2", x -> x.copy(3, 2));
    }

    @Edge(promise = 40, says = "l (the CATALOG is LOST)")
    static void stepOfLosing(Check check) {
        standsFor(check, "l", SpoolHall::lose);
    }

    @Edge(promise = 40, says = "r and a digit (TAPE: READ through)")
    static void stepOfReadingThrough(Check check) {
        standsFor(check, "r3", x -> x.scan(3));
    }

    @Edge(promise = 40, says = "p and a number (a PAUSE)")
    static void stepOfPausing(Check check) {
        standsFor(check, "p45", x -> x.pause(45));
    }

    @Edge(promise = 40, says = "x (a RESCUE)")
    static void stepOfRescuing(Check check) {
        standsFor(check, "x", SpoolHall::rescue);
    }

    // ---- part 2: places, blocks, the head, the arm

    @Edge(promise = 7, says = "PLACES: SLOTS 0, 1 .., behind them DRIVES.")
    static void drivesBehindSlots(Check check) {
        for (int slots = 4; slots <= 10; slots++) {
            SpoolHall x = Check.hall("sd3n" + slots + ";t;t;t");
            check.rows("place", tape -> x.tape(tape, 1), 0, 1, 2);
            x.mount(2);
            x.mount(0);
            x.mount(1);
            check.rows("place", tape -> x.tape(tape, 1), slots + 1, slots + 2, slots);
            check.due("the arm at the last drive", x.most(1), slots + 2);
            check.due("no place behind it", x.way(0, slots + 3), NONE);
        }
    }

    @Edge(promise = 7, says = "TAPE k has SLOT k for its own; it lies there, or in a DRIVE.")
    static void everyTapeHasItsSlot(Check check) {
        SpoolHall x = Check.hall("t;t;t;t;t;t;t;t");
        for (int tape = 7; tape >= 0; tape--) {
            check.due("its slot", x.tape(tape, 1), tape);
            x.mount(tape);
            for (int other = 0; other < 8; other++) {
                check.due("place of " + other, x.tape(other, 1), other == tape ? 8 : other);
            }
        }
        x.unmount(0);
        check.due("its slot again", x.tape(0, 1), 0);
    }

    @Edge(promise = 11, says = "to go from one PLACE to another one takes ARM times how far apart they are by number")
    static void waysOfTheArm(Check check) {
        SpoolHall x = Check.hall("sn7d2a4;t");
        check.due("way(2, 6)", x.way(2, 6), 16);
        check.due("way(6, 2)", x.way(6, 2), 16);
        check.due("way(0, 8)", x.way(0, 8), 32);
        check.due("way(5, 5)", x.way(5, 5), 0);
    }

    @Edge(promise = 41, says = "TIME is 0 at first.")
    static void noTimeAtFirst(Check check) {
        SpoolHall x = Check.hall("sm9a5;t;t;fb9;ft1b9");
        check.due("time", x.most(0), 0);
        x.pause(9);
        Check.tell(x, "t;f", 0);
        check.due("time of the next hall", x.most(0), 0);
    }

    @Edge(promise = 12, says = "A TAPE has LENGTH times WRAPS BLOCKS, numbered from 0 on;")
    static void blocksFromZeroOn(Check check) {
        SpoolHall x = Check.hall("sl5w3;t");
        check.due("the last one", x.seek(14, 14), 0);
        check.due("the first one", x.seek(0, 0), 0);
        check.due("one more", x.seek(0, 15), NONE);
        check.due("nine", x.write(0, 9), 0);
        check.due("from 0 on", x.file(0, 1), 0);
        check.due("seven have no room", x.write(0, 7), NONE);
        check.due("six have", x.write(0, 6), 1);
        check.due("all are written", x.tape(0, 3), 15);
        check.due("the head is at the last", x.tape(0, 2), 14);
    }

    @Edge(promise = 13, says = "WRAP of a BLOCK: it by LENGTH, cut; its SPOT: what is left of it by LENGTH, "
        + "on an odd WRAP LENGTH less 1 less that.")
    static void wrapsRunToAndFro(Check check) {
        SpoolHall x = Check.hall("sl5w4;t;fb5;fb5;fb5;fb5");
        int[][] spots = {{0, 1, 2, 3, 4}, {4, 3, 2, 1, 0}, {0, 1, 2, 3, 4}, {4, 3, 2, 1, 0}};
        for (int file = 0; file < 4; file++) {
            for (int i = 0; i < 5; i++) {
                check.due("spot of block " + (file * 5 + i), x.path(file, i, 0), spots[file][i]);
                check.due("wrap of block " + (file * 5 + i), x.path(file, i, 1), file);
            }
        }
    }

    @Edge(promise = 12, says = "To SEEK from a BLOCK to another one takes as much as their SPOTS are apart, "
        + "and 2, if their WRAPS are unlike.")
    static void spotsApart(Check check) {
        SpoolHall x = Check.hall("sl6w3;t");
        int[][] ways = {{1, 4, 3}, {4, 1, 3}, {7, 10, 3}, {10, 7, 3}, {12, 17, 5}, {3, 3, 0},
            {2, 9, 2}, {5, 6, 2}, {0, 17, 7}, {17, 0, 7}, {0, 12, 2}, {11, 1, 3}};
        for (int[] way : ways) {
            check.due("seek(" + way[0] + ", " + way[1] + ")", x.seek(way[0], way[1]), way[2]);
        }
    }

    @Edge(promise = 7, says = "The HEAD of a TAPE in a DRIVE is at a BLOCK (0, as it is MOUNTED).")
    static void theHeadAsItIsMounted(Check check) {
        SpoolHall x = Check.hall("sl4w2m1;t;fb6");
        x.mount(0);
        check.due("head", x.tape(0, 2), 0);
        x.scan(0);
        check.due("head behind reading", x.tape(0, 2), 5);
        x.unmount(0);
        x.mount(0);
        check.due("head as it is mounted again", x.tape(0, 2), 0);
    }

    @Edge(promise = 7, says = "To READ (or WRITE) BLOCKS one behind another takes the way of the HEAD to the first (SEEK) "
        + "and how many they are; the HEAD is at the last one of them then.")
    static void theHeadIsAtTheLast(Check check) {
        SpoolHall x = Check.hall("sl4w3;t;fb2;fb3");
        x.ask(1);
        x.serve();
        check.due("behind a serving", x.tape(0, 2), 4);
        check.due("time", x.most(0), 8 + 3 + 2 + 3);
        x.write(0, 4);
        check.due("behind a writing", x.tape(0, 2), 8);
        check.due("time", x.most(0), 16 + 1 + 4);
        x.ask(0);
        x.serve();
        check.due("behind another serving", x.tape(0, 2), 1);
        check.due("time", x.most(0), 21 + 2 + 2);
        x.scan(0);
        check.due("behind reading through", x.tape(0, 2), 8);
        check.due("time", x.most(0), 25 + 1 + 9);
    }

    @Edge(promise = 7, says = "BLOCKS READ of a TAPE with WEAR above WORN are MENDED: that many more.")
    static void mendedBlocksAddUp(Check check) {
        SpoolHall x = Check.hall("sg2;tu2;fb3;fb2");
        x.ask(0);
        x.serve();
        check.due("three", x.tape(0, 5), 3);
        x.scan(0);
        check.due("five more", x.tape(0, 5), 8);
        x.ask(1);
        x.serve();
        check.due("two more", x.tape(0, 5), 10);
        check.due("of all", x.most(7), 10);
    }

    @Edge(promise = 19, says = "To UNMOUNT a TAPE takes SEEK from its HEAD to BLOCK 0, MOUNT, "
        + "then the ARM goes to its DRIVE and from there to its SLOT.")
    static void theArmFetchesATape(Check check) {
        SpoolHall x = Check.hall("sn6d2l4w2m4a2;t;t;t;fb6");
        x.mount(0);
        x.mount(2);
        x.scan(0);
        check.due("time", x.most(0), 12 + 4 + 8 + 10 + 4 + 6);
        check.due("the arm at drive 1", x.most(1), 7);
        check.due("unmount(0)", x.unmount(0), 0);
        check.due("rewound, out, to drive 0, to slot 0", x.log(0, 2), 4 + 4 + 2 + 12);
        check.due("the arm at slot 0", x.most(1), 0);
    }

    @Edge(promise = 18, says = "To MOUNT it (one that lies in its SLOT):")
    static void onlyFromItsSlot(Check check) {
        SpoolHall x = Check.hall("sd2;t;t");
        x.mount(0);
        int time = x.most(0);
        check.due("mount(0) again", x.mount(0), NONE);
        check.due("wear", x.tape(0, 4), 1);
        check.due("time", x.most(0), time);
        check.due("mount(1)", x.mount(1), 1);
    }

    @Edge(promise = 18, says = "then the ARM goes to its SLOT, from there to the lowest empty DRIVE, and MOUNT;")
    static void theArmBringsATape(Check check) {
        SpoolHall x = Check.hall("sn5d2m6a3;t;t;t;t");
        x.mount(3);
        check.due("from 0 to 3, to 5", x.log(0, 2), 9 + 6 + 6);
        check.due("arm", x.most(1), 5);
        x.mount(1);
        check.due("from 5 to 1, to 6", x.log(0, 2), 12 + 15 + 6);
        check.due("arm", x.most(1), 6);
    }

    @Edge(promise = 18, says = "is no DRIVE empty, first that TAPE is UNMOUNTED that was used longest ago "
        + "(MOUNTED, READ, WRITTEN);")
    static void whatUseIs(Check check) {
        SpoolHall x = Check.hall("sd2;t;t;t;f;ft1;ft2");
        x.mount(0);
        x.mount(1);
        x.mount(2);
        check.due("0 was mounted longest ago", x.tape(0, 1), 0);
        x.ask(1);
        x.mount(0);
        check.due("asking is no use", x.tape(1, 1), 1);
        x.scan(2);
        x.mount(1);
        check.due("reading is", x.tape(0, 1), 0);
        x.write(2, 1);
        x.mount(0);
        check.due("writing is", x.tape(1, 1), 1);
        x.serve();
        check.due("by then 0 and 1 are in", x.most(2), 3);
    }

    // ---- part 2: files and acts

    @Edge(promise = 8, says = "has a TAPE (NONE: it was DROPPED), START, BLOCKS; it is KNOWN or not.")
    static void whatAFileHas(Check check) {
        SpoolHall x = Check.hall("t;t;fb3;ft1b2;fb4");
        check.rows("file 2", what -> x.file(2, what), 0, 3, 4, 1, 0);
        x.lose();
        check.rows("file 2, not known", what -> x.file(2, what), 0, 3, 4, 0, 0);
        x.drop(2);
        check.rows("file 2, dropped", what -> x.file(2, what), NONE, HIDDEN, HIDDEN, 0, 0);
        check.rows("file 1", what -> x.file(1, what), 1, 0, 2, 0, 0);
    }

    @Edge(promise = 5, says = "FILES that are told are WRITTEN in order, each behind END of its TAPE (END is behind it then),")
    static void toldFilesInOrder(Check check) {
        SpoolHall x = Check.hall("ft1b2;fb4;ft1b3;t;fb1;t");
        check.rows("tape", file -> x.file(file, 0), 1, 0, 1, 0);
        check.rows("start", file -> x.file(file, 1), 0, 0, 2, 4);
        check.rows("blocks", file -> x.file(file, 2), 2, 4, 3, 1);
        check.rows("end", tape -> x.tape(tape, 3), 5, 5);
        check.due("the next is behind them", x.file(x.write(1, 1), 1), 5);
    }

    @Edge(promise = 14, says = "ASKED for: a FILE that is there, KNOWN,")
    static void whatCanBeAskedFor(Check check) {
        SpoolHall x = Check.hall("t;t;f;ft1;f");
        x.lose();
        x.scan(1);
        check.due("not known", x.ask(0), NONE);
        check.due("known", x.ask(1), 1);
        x.drop(1);
        check.due("not there", x.ask(1), NONE);
        check.rows("status", x::status, 1, 0, 1, 0);
    }

    @Edge(promise = 15, says = "SERVED: of the TAPES of which FILES are ASKED for that in a DRIVE with most such FILES")
    static void onlyTapesAskedFor(Check check) {
        SpoolHall x = Check.hall("sd2;t;t;f;f;f;ft1");
        x.mount(0);
        x.ask(3);
        check.due("0 is in a drive, but of it nothing is asked for", x.serve(), 1);
        x.ask(0);
        x.ask(3);
        x.ask(1);
        check.due("both are in drives, of 0 more is asked for", x.serve(), 0);
    }

    @Edge(promise = 15, says = "if there is none in a DRIVE, of all that with most")
    static void noneInADrive(Check check) {
        SpoolHall x = Check.hall("t;t;t;f;ft1;ft1;ft2;ft2;ft2");
        x.mount(2);
        x.ask(0);
        x.ask(1);
        x.ask(2);
        check.due("most asked for, not most files", x.serve(), 1);
        check.due("it is mounted", x.drive(0), 1);
    }

    @Edge(promise = 15, says = "then these FILES are READ by the best of three ORDERS (0: START rising;")
    static void startsRising(Check check) {
        SpoolHall x = Check.hall("sl8w1;t;fb2;fb2;fb2;fb2");
        x.ask(3);
        x.ask(0);
        x.ask(2);
        check.rows("takes", order -> x.takes(0, order), 2 + 5 + 3, 2 + 5 + 3, 8 + 9 + 5);
        x.serve();
        check.due("mounted and read", x.most(0), 8 + 3 + 10);
        check.due("the head is behind the last", x.tape(0, 2), 7);
    }

    @Edge(promise = 20, says = "COPIED from a TAPE to another one (END 0):")
    static void onlyToAnEmptyTape(Check check) {
        SpoolHall x = Check.hall("sd2;t;t;t;f;ft1");
        x.drop(1);
        check.due("no files, yet its end is not 0", x.copy(0, 1), NONE);
        check.due("end 0", x.copy(0, 2), 1);
        check.due("end of the one is 0 then", x.copy(2, 0), 1);
    }

    @Edge(promise = 20, says = "then the other one is MOUNTED, if it is in no DRIVE,")
    static void theOtherOneIsMounted(Check check) {
        SpoolHall x = Check.hall("sd2m5;t;t;fb2");
        x.copy(0, 1);
        check.due("0 mounted, read, 1 mounted, written", x.most(0), 8 + 5 + 2 + 7 + 8 + 5 + 2);
        check.due("wear", x.tape(1, 4), 1);
        SpoolHall y = Check.hall("sd2m5;t;t;fb2");
        y.mount(1);
        y.copy(0, 1);
        check.due("0 mounted, read, written", y.log(0, 2), 8 + 9 + 5 + 2 + 2);
        check.due("wear", y.tape(1, 4), 1);
    }

    @Edge(promise = 22, says = "READ through: a TAPE is MOUNTED, if it is in no DRIVE,")
    static void mountedToBeReadThrough(Check check) {
        SpoolHall x = Check.hall("t;t;fb3");
        x.scan(0);
        check.due("mounted, read", x.log(0, 2), 8 + 3 + 3);
        x.scan(0);
        check.due("read", x.log(0, 2), 2 + 3);
        check.due("wear", x.tape(0, 4), 1);
    }

    @Edge(promise = 22, says = "all its FILES are KNOWN.")
    static void allItsFilesAreKnown(Check check) {
        SpoolHall x = Check.hall("t;t;f;ft1;f");
        x.lose();
        check.due("scan(0)", x.scan(0), 2);
        check.rows("known", file -> x.file(file, 3), 1, 0, 1);
        check.due("scan(1)", x.scan(1), 1);
        check.rows("known", file -> x.file(file, 3), 1, 1, 1);
    }

    @Edge(promise = 23, says = "whose last use (TIME as it was MOUNTED, READ or WRITTEN, behind that) "
        + "is more than IDLE ago, as TIME is ahead of all these, is UNMOUNTED.")
    static void lastUses(Check check) {
        SpoolHall x = Check.hall("si10m1;t;fb9");
        x.mount(0);
        check.due("ten behind mounting", x.pause(10), 0);
        x.scan(0);
        check.due("ten behind reading", x.pause(10), 0);
        x.write(0, 2);
        check.due("ten behind writing", x.pause(10), 0);
        x.ask(0);
        check.due("eleven behind it", x.pause(1), 1);
        check.due("in its slot", x.tape(0, 1), 0);
    }

    @Edge(promise = 24, says = "is COPIED to its TARGET as it is then (none: it stays).")
    static void withoutATargetItStays(Check check) {
        SpoolHall x = Check.hall("sg1d2;tu2;tu5;t;fb2;ft1;ft2");
        check.due("rescue()", x.rescue(), NONE);
        check.rows("tape", file -> x.file(file, 0), 0, 1, 2);
        check.due("time", x.most(0), 0);
    }

    @Edge(promise = 27, says = "All these are ACTS: the latest 40 can be UNDONE one by one")
    static void allAreActs(Check check) {
        SpoolHall x = Check.hall("sg1;tu5;t;t;fb3;ft1;f");
        List<ToIntFunction<SpoolHall>> acts = List.of(y -> y.ask(0), SpoolHall::serve, y -> y.write(1, 2),
            y -> y.drop(2), y -> y.mount(0), y -> y.unmount(0), y -> y.copy(1, 2), SpoolHall::lose, y -> y.scan(0),
            y -> y.pause(1), SpoolHall::rescue);
        for (int i = 0; i < acts.size(); i++) {
            check.due("act " + i, acts.get(i).applyAsInt(x) != NONE, true);
            check.due("acts that can be undone", x.count(4), i + 1);
            check.due("sort", x.log(0, 0), i);
        }
        for (int i = acts.size() - 1; i >= 0; i--) {
            check.due("undo()", x.undo(), i);
            check.due("how long the log is", x.count(3), i);
        }
        check.due("time", x.most(0), 0);
        check.due("files that are there", x.most(4), 3);
    }

    @Edge(promise = 26, says = "STATUS: how many ACTS were refused as there was no such one, no HALL (0), out of bounds (1), "
        + "it is so, it can't be so (2), too much: 12, 24, no room (3);")
    static void whyActsAreRefused(Check check) {
        SpoolHall x = new SpoolHall();
        x.serve();
        check.rows("no hall", x::status, 1, 0, 0, 0);
        Check.tell(x, "sl4w6;t;t" + ";f".repeat(14), 0);
        x.drop(14);
        check.rows("no such one", x::status, 2, 0, 0, 0);
        x.pause(100);
        check.rows("out of bounds", x::status, 2, 1, 0, 0);
        x.mount(0);
        x.mount(0);
        check.rows("it is so", x::status, 2, 1, 1, 0);
        x.copy(1, 0);
        check.rows("it can't be so", x::status, 2, 1, 2, 0);
        for (int file = 0; file < 13; file++) {
            x.ask(file);
        }
        check.rows("12", x::status, 2, 1, 2, 1);
        x.write(0, 9);
        x.write(0, 2);
        check.rows("no room", x::status, 2, 1, 2, 2);
        for (int file = 15; file < 25; file++) {
            x.write(1, 1);
        }
        check.rows("24", x::status, 2, 1, 2, 3);
    }

    @Edge(promise = 28, says = "The LOG: of each ACT its sort (0 ASKED, 1 SERVED, 2 WRITTEN, 3 DROPPED, 4 MOUNTED, 5 UNMOUNTED, "
        + "6 COPIED, 7 LOST, 8 READ through, 9 PAUSE, 10 RESCUE), a number (ASKED, DROPPED: the FILE; LOST: NONE; "
        + "COPIED: the one; PAUSE: n; RESCUE: how many; others: the TAPE), how much TIME it took: the latest 60.")
    static void sortsAndNumbers(Check check) {
        SpoolHall x = Check.hall("sg2d2m1;t;tu5;t;t;fb3;ft1b2;f;f");
        x.drop(3);
        x.ask(2);
        x.serve();
        x.write(2, 4);
        x.mount(3);
        x.unmount(3);
        x.copy(2, 3);
        x.lose();
        x.scan(1);
        x.pause(7);
        x.rescue();
        int[][] due = {{10, 1}, {9, 7}, {8, 1}, {7, NONE}, {6, 2}, {5, 3}, {4, 3}, {2, 2}, {1, 0}, {0, 2}, {3, 3}};
        int time = 0;
        for (int i = 0; i < due.length; i++) {
            check.due("sort " + i, x.log(i, 0), due[i][0]);
            check.due("number " + i, x.log(i, 1), due[i][1]);
            time += x.log(i, 2);
        }
        check.due("all time was taken by acts", x.most(0), time);
        check.due("how long the log is", x.count(3), 11);
    }

    // ---- part 3: what would be

    @Edge(promise = 29, says = "TAKES of an ORDER of a TAPE: how much TIME its FILES that are ASKED for would take by it, "
        + "from its HEAD (in its SLOT: from BLOCK 0).")
    static void threeOrders(Check check) {
        SpoolHall x = Check.hall("sl6w2;t;t;fb2;fb2;fb3;fb2;fb3;ft1b9");
        x.ask(4);
        x.ask(1);
        x.ask(3);
        x.ask(5);
        int near = 2 + 2 + 3 + 2 + 1 + 3;
        check.rows("takes(0, ..)", order -> x.takes(0, order), near, near, 4 + 3 + 4 + 2 + 3 + 2);
        check.rows("takes(1, ..)", order -> x.takes(1, order), 9, 9, 9);
    }

    @Edge(promise = 30, says = "LEAST of a TAPE: by that of all rows into which these FILES can be put "
        + "(not of the three ORDERS alone) that takes least.")
    static void lessThanByTheThree(Check check) {
        SpoolHall x = Check.hall("sl4w3;t;fb4;f;fb3;fb3");
        x.ask(1);
        x.ask(3);
        x.ask(2);
        int rising = 5 + 1 + 1 + 3 + 2 + 3;
        int nearest = 2 + 3 + 2 + 3 + 3 + 1;
        check.rows("takes(0, ..)", order -> x.takes(0, order), rising, nearest, 5 + 1 + 5 + 3 + 2 + 3);
        check.due("3, 1, 2", x.least(0), 2 + 3 + 3 + 1 + 1 + 3);
    }

    private static final int FIRST = 6 + 3;
    private static final int SECOND = 6 + 7 + 1;
    private static final int THIRD = 6 + 6 + 1;

    /** Three tapes are asked for, the one in the midst most, and there is one drive. */
    private static SpoolHall threeToServe() {
        SpoolHall x = Check.hall("sn4m2;t;t;t;f;ft1;ft1;ft2");
        for (int file = 0; file < 4; file++) {
            x.ask(file);
        }
        return x;
    }

    @Edge(promise = 31, says = "ALL: how much TIME it would take till nothing is ASKED for, SERVED again and again; "
        + "how often a TAPE would be MOUNTED by that; the i-th TAPE SERVED.")
    static void servedAgainAndAgain(Check check) {
        SpoolHall x = threeToServe();
        check.rows("all", x::all, FIRST + SECOND + THIRD, 3, 3);
        check.rows("served", x::served, 1, 0, 2, NONE);
        int time = 0;
        for (int i = 0; i < 3; i++) {
            check.due("served(0) now", x.served(0), x.serve());
            time = x.most(0);
            check.due("what is left takes", x.all(0), FIRST + SECOND + THIRD - time);
        }
        check.rows("all of nothing", x::all, 0, 0, 0);
        check.due("served(0) of nothing", x.served(0), NONE);
    }

    @Edge(promise = 33, says = "SOON of a FILE that is ASKED for: how many SERVINGS till it is READ.")
    static void servingsTillItIsRead(Check check) {
        SpoolHall x = threeToServe();
        check.rows("soon", x::soon, 2, 1, 1, 3);
        x.serve();
        check.rows("soon behind the first", x::soon, 1, NONE, NONE, 2);
    }

    @Edge(promise = 7, says = "DEAD of a TAPE: BLOCKS ahead of END that no FILE has.")
    static void deadBlocks(Check check) {
        SpoolHall x = Check.hall("t;t;fb3;fb2;fb4");
        check.due("none", x.tape(0, 8), 0);
        x.drop(1);
        check.due("two", x.tape(0, 8), 2);
        x.drop(2);
        check.due("six, as the end stays", x.tape(0, 8), 6);
        x.write(0, 1);
        check.due("six", x.tape(0, 8), 6);
        x.copy(0, 1);
        check.due("none, as the end is 0", x.tape(0, 8), 0);
        check.due("none is copied", x.tape(1, 8), 0);
    }

    @Edge(promise = 34, says = "TARGET for a TAPE: that to which it could be COPIED with the least WEAR")
    static void targets(Check check) {
        SpoolHall x = Check.hall("t;tu7;tu3;tu5;f;ft2");
        check.rows("target", x::target, 3, NONE, 3, NONE);
        x.copy(0, 3);
        check.rows("target", x::target, NONE, NONE, 0, 0);
    }

    @Edge(promise = 35, says = "CHEAP for so many BLOCKS: the TAPE on which to WRITE them takes least TIME now")
    static void cheapest(Check check) {
        String text = "sl4w3m2;t;t;fb9;ft1b2";
        SpoolHall x = Check.hall(text);
        SpoolHall y = Check.hall(text);
        check.due("cheap(1)", x.cheap(1), 1);
        check.due("cheap(4): the other one has no room", x.cheap(4), 1);
        x.write(1, 1);
        check.due("as it is cheaper", x.log(0, 2), 10 + 2 + 1);
        y.write(0, 1);
        check.due("than that", y.log(0, 2), 10 + 3 + 1);
        check.due("cheap(1) of the one in the drive", y.cheap(1), 0);
        check.due("cheap(3)", y.cheap(3), 1);
    }

    @Edge(promise = 13, says = "PATH of a FILE, a BLOCK of it: its SPOT, its WRAP.")
    static void pathOfAFile(Check check) {
        SpoolHall x = Check.hall("sl4w2;t;fb3;fb3");
        check.rows("spot", i -> x.path(1, i, 0), 3, 3, 2);
        check.rows("wrap", i -> x.path(1, i, 1), 0, 1, 1);
    }

    @Edge(promise = 37, says = "SHARES of c (0 .. 999) by BLOCKS of FILES: of a TAPE: "
        + "c times its by those of all, cut (0: none has any).")
    static void sharesByBlocks(Check check) {
        SpoolHall x = Check.hall("t;t;t;fb3;ft1b6;fb2");
        check.rows("shares(.., 100)", tape -> x.shares(tape, 100), 45, 54, 0);
        x.drop(0);
        check.rows("shares(.., 999)", tape -> x.shares(tape, 999), 249, 749, 0);
        x.lose();
        check.rows("shares(.., 8) of those not known", tape -> x.shares(tape, 8), 2, 6, 0);
        x.drop(1);
        x.drop(2);
        check.rows("shares(.., 999) of nothing", tape -> x.shares(tape, 999), 0, 0, 0);
    }

    @Edge(promise = 39, says = "RUN of a SCRIPT: behind how many STEPS the first is that can't be; TIME behind these.")
    static void runOfAScript(Check check) {
        SpoolHall x = Check.hall("t;f");
        Check.tell(x, "p5;a0;m0;m0;p9", 1);
        x.pause(1);
        check.due("three can be", x.run(0, 0), 3);
        check.due("time behind them", x.run(0, 1), 1 + 5 + 8 + 3);
        check.due("the time now", x.most(0), 1);
    }

    @Edge(promise = 40, says = "DO: its STEPS as ACTS, up to there (no STATUS).")
    static void aScriptDone(Check check) {
        SpoolHall x = Check.hall("t;f");
        Check.tell(x, "p5;a0;m0;m0;p9", 1);
        check.due("perform(0)", x.perform(0), 3);
        check.due("acts", x.count(4), 3);
        check.due("time", x.most(0), 5 + 8 + 3);
        check.rows("status", x::status, 0, 0, 0, 0);
        check.due("undone one by one", x.undo(), 2);
        check.due("in its slot again", x.tape(0, 1), 0);
    }

    // ---- part 4: years, images, refusals

    /** Draws told by whole numbers without bounds, so that nothing goes round by itself. */
    private static final class Draws {
        private static final BigInteger ROUND = BigInteger.ONE.shiftLeft(64);
        private BigInteger x;

        Draws(long seed) {
            x = BigInteger.valueOf(seed).mod(ROUND);
        }

        int below(int j) {
            x = x.multiply(new BigInteger("6364136223846793005")).add(new BigInteger("1442695040888963407")).mod(ROUND);
            return x.shiftRight(33).mod(BigInteger.valueOf(j)).intValue();
        }
    }

    /** Twelve files on three of four tapes, one of them asked for: what a year does is told by the log. */
    private static SpoolHall forAYear() {
        SpoolHall x = Check.hall("sl16;t;t;t;t" + ";f;ft1;ft2".repeat(4));
        x.ask(0);
        return x;
    }

    private static void oneYear(Check check, long seed, int[] seen) {
        SpoolHall x = forAYear();
        Draws draws = new Draws(seed);
        int sort = draws.below(8);
        int number = sort == 3 || sort == 4 ? 0 : draws.below(sort < 3 || sort == 6 ? 24 : 4);
        boolean done = sort < 3 ? number > 0 && number < 12 : sort == 6 ? number < 12 : sort != 7 || number < 3;
        int logged = sort < 3 ? 0 : sort < 5 ? 1 : sort == 5 ? 2 : sort == 6 ? 3 : 6;
        check.due("years(1, " + seed + ")", x.years(1, seed), x.most(0));
        check.due("seed " + seed + ": acts", x.count(4), done ? 2 : 1);
        check.due("seed " + seed + ": sort", x.log(0, 0), done ? logged : 0);
        check.due("seed " + seed + ": number", x.log(0, 1), done ? number : 0);
        if (sort == 5) {
            check.due("seed " + seed + ": blocks", x.file(12, 2), draws.below(9) + 1);
        }
        if (sort == 7 && done) {
            check.due("seed " + seed + ": copied to the empty one", x.tape(3, 6), 4);
        }
        seen[sort] += done ? 1 : 0;
    }

    @Edge(promise = 25, says = "x, at first the seed, becomes x times 6364136223846793005 and 1442695040888963407 "
        + "(64 bits, going round); a draw of j: (x shifted right by 33, without sign) modulo j.")
    static void aYearByEachOfManySeeds(Check check) {
        int[] seen = new int[8];
        for (long seed : new long[] {0, 1, -1, 8, Long.MAX_VALUE, Long.MIN_VALUE, 1L << 32, -1L << 33}) {
            oneYear(check, seed, seen);
        }
        for (int i = 1; i <= 200; i++) {
            oneYear(check, i * 0x9E3779B97F4A7C15L, seen);
        }
        for (int sort = 0; sort < 8; sort++) {
            check.due("draws of " + sort + " were seen", seen[sort] > 2, true);
        }
    }

    @Edge(promise = 25, says = "YEARS by a seed: n (1 .. 40) times: a draw of 8:")
    static void aDrawForEachYear(Check check) {
        for (int n = 1; n <= 40; n++) {
            SpoolHall x = forAYear();
            SpoolHall twin = forAYear();
            Draws draws = new Draws(n);
            for (int i = 0; i < n; i++) {
                switch (draws.below(8)) {
                    case 0, 1, 2 -> twin.ask(draws.below(24));
                    case 3, 4 -> twin.serve();
                    case 5 -> twin.write(draws.below(4), draws.below(9) + 1);
                    case 6 -> twin.drop(draws.below(24));
                    default -> {
                        int tape = draws.below(4);
                        twin.copy(tape, twin.target(tape));
                    }
                }
            }
            check.due("years(" + n + ", " + n + ")", x.years(n, n), twin.most(0));
            Edges.alike(check, "years(" + n + ", " + n + ")", x, twin);
        }
    }

    @Edge(promise = 25, says = "Each is an ACT; what can't be is left (no STATUS).")
    static void yearsUndoneOneByOne(Check check) {
        SpoolHall x = forAYear();
        x.years(30, 5);
        int acts = x.count(4);
        check.due("some were done, some not", acts > 5 && acts < 30, true);
        check.rows("status", x::status, 0, 0, 0, 0);
        for (int left = acts - 1; left > 0; left--) {
            int time = x.most(0) - x.log(0, 2);
            check.due("undo()", x.undo(), left);
            check.due("time", x.most(0), time);
        }
        check.due("files", x.count(5), 12);
        check.due("asked for", x.most(6), 1);
    }

    @Edge(promise = 43, says = "An IMAGE keeps all that ACTS change; BACK: it is so again (no ACT can be UNDONE then).")
    static void backToAnImage(Check check) {
        for (long seed = 1; seed < 9; seed++) {
            SpoolHall x = Edges.busy(y -> { }).get();
            SpoolHall twin = Edges.busy(y -> { }).get();
            x.image();
            x.years(40, seed);
            twin.image();
            check.due("back()", x.back(), twin.most(0));
            twin.back();
            Edges.alike(check, "years(40, " + seed + ") and back()", x, twin);
        }
    }

    @Edge(promise = 26, says = "What is refused answers as told and changes nothing but STATUS.")
    static void refusedActs(Check check) {
        Edges.refusedAct(check, "ask(3)", Edges.busy(x -> { }), x -> x.ask(3), 0);
        Edges.refusedAct(check, "ask(2)", Edges.busy(x -> { }), x -> x.ask(2), 2);
        Edges.refusedAct(check, "serve()", Edges.busy(SpoolHall::serve), SpoolHall::serve, 2);
        Edges.refusedAct(check, "write(4, 1)", Edges.busy(x -> { }), x -> x.write(4, 1), 0);
        Edges.refusedAct(check, "write(2, 10)", Edges.busy(x -> { }), x -> x.write(2, 10), 1);
        Edges.refusedAct(check, "write(3, 4)", Edges.busy(x -> { }), x -> x.write(3, 4), 3);
        Edges.refusedAct(check, "drop(3)", Edges.busy(x -> { }), x -> x.drop(3), 0);
        Edges.refusedAct(check, "mount(0)", Edges.busy(x -> { }), x -> x.mount(0), 2);
        Edges.refusedAct(check, "unmount(2)", Edges.busy(x -> { }), x -> x.unmount(2), 2);
        Edges.refusedAct(check, "copy(0, 1)", Edges.busy(x -> { }), x -> x.copy(0, 1), 2);
        Edges.refusedAct(check, "lose()", Edges.busy(SpoolHall::lose), SpoolHall::lose, 2);
        Edges.refusedAct(check, "scan(4)", Edges.busy(x -> { }), x -> x.scan(4), 0);
        Edges.refusedAct(check, "pause(0)", Edges.busy(x -> { }), x -> x.pause(0), 1);
        Edges.refusedAct(check, "rescue()", Edges.busy(x -> x.write(2, 1)), SpoolHall::rescue, 2);
    }

    @Edge(promise = 1, says = "`NONE = -1`: None; refused. `HIDDEN = -1000000`: Not told.")
    static void theConstants(Check check) {
        SpoolHall x = Check.hall("t");
        check.due("NONE", SpoolHall.NONE, -1);
        check.due("HIDDEN", SpoolHall.HIDDEN, -1000000);
        check.due("none", x.drive(0), -1);
        check.due("refused", x.mount(1), -1);
        check.due("not told", x.file(0, 0), -1000000);
    }
}
