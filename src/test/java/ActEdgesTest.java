import java.util.function.Consumer;
import java.util.function.Supplier;
import java.util.function.ToIntFunction;

/** One test for each sentence of promises 14 to 24, and of "Terms" behind them, that names a boundary. */
public final class ActEdgesTest {
    private static final int NONE = Check.NONE;
    private static final int LOW = Integer.MIN_VALUE;
    private static final int HIGH = Integer.MAX_VALUE;
    /** Reasons of refusal, as status() numbers them. */
    private static final int NO_SUCH = 0;
    private static final int BOUNDS = 1;
    private static final int CANNOT = 2;
    private static final int TOO_MUCH = 3;

    public static void main(String[] args) {
        Edges.runAll(ActEdgesTest.class);
    }

    private static Supplier<SpoolHall> busy() {
        return Edges.busy(x -> { });
    }

    private static void refused(Check check, String call, ToIntFunction<SpoolHall> act, int status) {
        Edges.refusedAct(check, call, busy(), act, status);
    }

    private static void refusedIn(Check check, String text, Consumer<SpoolHall> done, String call,
            ToIntFunction<SpoolHall> act, int status) {
        Edges.refusedAct(check, call + " in " + text, Edges.made(text, done), act, status);
    }

    private static void refusedWithoutHall(Check check, String call, ToIntFunction<SpoolHall> act) {
        Edges.refusedAct(check, call + " without a hall", Edges::empty, act, NO_SUCH);
    }

    private static void logged(Check check, SpoolHall x, int sort, int number, int time) {
        check.due("log(0, 0)", x.log(0, 0), sort);
        check.due("log(0, 1)", x.log(0, 1), number);
        check.due("log(0, 2)", x.log(0, 2), time);
    }

    private static void askAll(SpoolHall x, int from, int to) {
        for (int file = from; file < to; file++) {
            x.ask(file);
        }
    }

    // ---- promise 14

    @Edge(promise = 14, says = "NONE: no such FILE, it was DROPPED (STATUS 0)")
    static void askForNoSuchFile(Check check) {
        for (int file : new int[] {-1, 5, 24, LOW, HIGH}) {
            refused(check, "ask(" + file + ")", x -> x.ask(file), NO_SUCH);
        }
        refused(check, "ask(3), which was dropped", x -> x.ask(3), NO_SUCH);
        refusedWithoutHall(check, "ask(0)", x -> x.ask(0));
        refusedIn(check, "t", x -> { }, "ask(0)", x -> x.ask(0), NO_SUCH);
        SpoolHall x = Check.hall("sl16;t" + ";f".repeat(24));
        check.due("ask(23)", x.ask(23), 1);
        check.due("ask(24)", x.ask(24), NONE);
    }

    @Edge(promise = 14, says = "it is not KNOWN, it is ASKED for (2)")
    static void askForWhatIsNotKnownOrAskedFor(Check check) {
        refused(check, "ask(2), which is asked for", x -> x.ask(2), CANNOT);
        Edges.refusedAct(check, "ask(0), which is not known", Edges.busy(x -> x.lose()), x -> x.ask(0), CANNOT);
        Edges.refusedAct(check, "ask(3), dropped and all lost", Edges.busy(x -> x.lose()), x -> x.ask(3), NO_SUCH);
    }

    @Edge(promise = 14, says = "12 are (3)")
    static void theTwelfthAndAThirteenth(Check check) {
        String text = "t;t" + ";f".repeat(13) + ";ft1;ft1";
        SpoolHall x = Check.hall(text);
        askAll(x, 0, 11);
        check.due("a twelfth", x.ask(11), 12);
        check.due("most(6)", x.most(6), 12);
        refusedIn(check, text, y -> askAll(y, 0, 12), "a thirteenth", y -> y.ask(12), TOO_MUCH);
        refusedIn(check, text, y -> askAll(y, 0, 12), "a thirteenth of another tape", y -> y.ask(14), TOO_MUCH);
    }

    @Edge(promise = 14, says = "of several the first")
    static void otherReasonsAheadOfTwelve(Check check) {
        String text = "t;t" + ";f".repeat(13) + ";ft1;ft1";
        refusedIn(check, text, y -> askAll(y, 0, 12), "no such one", y -> y.ask(15), NO_SUCH);
        refusedIn(check, text, y -> askAll(y, 0, 12), "one that is asked for", y -> y.ask(11), CANNOT);
        refusedIn(check, text, y -> {
            y.drop(12);
            askAll(y, 0, 12);
        }, "one that was dropped", y -> y.ask(12), NO_SUCH);
        refusedIn(check, text, y -> {
            y.lose();
            y.scan(0);
            askAll(y, 0, 12);
        }, "one that is not known", y -> y.ask(13), CANNOT);
    }

    @Edge(promise = 14, says = "not ASKED for already (12 at most)")
    static void roomForATwelfthAgain(Check check) {
        SpoolHall x = Check.hall("t;t" + ";f".repeat(14) + ";ft1");
        askAll(x, 0, 12);
        x.drop(0);
        check.due("behind a drop", x.ask(12), 13);
        check.due("a thirteenth", x.ask(13), NONE);
        x.undo();
        check.due("behind an undone one", x.ask(13), 13);
        x.serve();
        check.due("behind a serving", x.ask(14), 14);
        x.lose();
        x.scan(0);
        askAll(x, 1, 12);
        check.due("eleven behind a loss", x.most(6), 11);
        check.due("a twelfth", x.ask(12), 26);
        check.due("a thirteenth", x.ask(13), NONE);
    }

    @Edge(promise = 14, says = "it has a TURN (1, 2 .. of all)")
    static void turnsGoOn(Check check) {
        SpoolHall x = Check.hall("t;t;f;ft1;f");
        check.due("the first", x.ask(1), 1);
        check.due("the next, of another tape", x.ask(0), 2);
        x.ask(0);
        x.ask(7);
        x.serve();
        x.serve();
        check.due("behind servings and refusals", x.ask(0), 3);
        x.drop(0);
        check.due("behind a drop", x.ask(1), 4);
        x.undo();
        check.due("behind an undone one", x.ask(2), 4);
        logged(check, x, 0, 2, 0);
    }

    // ---- promise 15

    @Edge(promise = 15, says = "NONE: no HALL (STATUS 0), nothing is ASKED for (2).")
    static void nothingToServe(Check check) {
        refusedWithoutHall(check, "serve()", x -> x.serve());
        refusedIn(check, "t", x -> { }, "serve()", x -> x.serve(), CANNOT);
        refusedIn(check, "t;f", x -> x.mount(0), "serve()", x -> x.serve(), CANNOT);
        Edges.refusedAct(check, "serve() behind the last", Edges.busy(x -> x.serve()), x -> x.serve(), CANNOT);
        Edges.refusedAct(check, "serve() of what was dropped", Edges.busy(x -> x.drop(2)), x -> x.serve(), CANNOT);
        Edges.refusedAct(check, "serve() of what was lost", Edges.busy(x -> x.lose()), x -> x.serve(), CANNOT);
    }

    @Edge(promise = 15, says = "that in a DRIVE with most such FILES (of several the lowest)")
    static void ofThoseInDrives(Check check) {
        SpoolHall x = Check.hall("sd3;t;t;t;t;f;ft1;ft1;ft2;ft2;ft3;ft3;ft3");
        x.mount(2);
        x.mount(0);
        x.mount(1);
        askAll(x, 0, 8);
        check.due("two in drives have two: the lowest", x.serve(), 1);
        check.due("then the other with two", x.serve(), 2);
        check.due("then the one with one", x.serve(), 0);
        check.due("then that in its slot, though it has most", x.serve(), 3);
    }

    @Edge(promise = 15, says = "of all that with most (of several the lowest), which is MOUNTED")
    static void ofThoseInSlots(Check check) {
        SpoolHall x = Check.hall("t;t;t;t;f;ft1;ft1;ft2;ft2");
        x.mount(3);
        askAll(x, 0, 5);
        check.due("none in a drive: two have two", x.serve(), 1);
        check.due("it is mounted", x.drive(0), 1);
        check.due("then the other with two", x.serve(), 2);
        check.due("then the one with one", x.serve(), 0);
        check.due("all are served", x.most(6), 0);
    }

    @Edge(promise = 15, says = "which takes least (of several the first)")
    static void ofOrdersThatTakeTheSame(Check check) {
        SpoolHall x = Check.hall("sl16w1;t;fb4;fb4;fb4");
        x.ask(1);
        x.serve();
        check.due("head", x.tape(0, 2), 7);
        x.ask(2);
        x.ask(0);
        check.due("takes(0, 0): 7 to 0, 3 to 8", x.takes(0, 0), 7 + 4 + 5 + 4);
        check.due("takes(0, 1): 7 to 8, 11 to 0", x.takes(0, 1), 1 + 4 + 11 + 4);
        check.due("takes(0, 2)", x.takes(0, 2), 20);
        x.serve();
        check.due("order 0 was taken", x.tape(0, 2), 11);
        logged(check, x, 1, 0, 20);
    }

    @Edge(promise = 15, says = "which takes least (of several the first)")
    static void orderOneAndTwoWhenTheyTakeLeast(Check check) {
        SpoolHall x = Check.hall("sl8w2;t;fb9;f;f;f");
        x.ask(1);
        x.serve();
        x.ask(0);
        x.ask(3);
        check.due("takes(0, 0)", x.takes(0, 0), 21);
        check.due("takes(0, 1)", x.takes(0, 1), 18);
        check.due("takes(0, 2)", x.takes(0, 2), 21);
        x.serve();
        check.due("order 1 was taken", x.tape(0, 2), 8);
        logged(check, x, 1, 0, 18);
        SpoolHall y = Check.hall("sl16w1;t" + ";f".repeat(12));
        y.ask(5);
        y.serve();
        for (int file : new int[] {4, 0, 6, 11}) {
            y.ask(file);
        }
        check.due("takes(0, 0): 5 to 0, 4, 6, 11", y.takes(0, 0), 5 + 4 + 2 + 5 + 4);
        check.due("takes(0, 1): 5 to 4, 6, 11, 0", y.takes(0, 1), 1 + 2 + 5 + 11 + 4);
        check.due("takes(0, 2): 5 to 4, 0, 6, 11", y.takes(0, 2), 1 + 4 + 6 + 5 + 4);
        y.serve();
        check.due("the first of two that take 20", y.tape(0, 2), 11);
        SpoolHall z = Check.hall("sl16w1;t" + ";f".repeat(12));
        z.ask(6);
        z.serve();
        for (int file : new int[] {4, 0, 7, 9}) {
            z.ask(file);
        }
        check.due("takes(0, 0): 6 to 0, 4, 7, 9", z.takes(0, 0), 6 + 4 + 3 + 2 + 4);
        check.due("takes(0, 1): 6 to 7, 9, 4, 0", z.takes(0, 1), 1 + 2 + 5 + 4 + 4);
        z.serve();
        check.due("order 1 was taken", z.tape(0, 2), 0);
    }

    @Edge(promise = 15, says = "which takes least (of several the first)")
    static void orderOneAheadOfTwo(Check check) {
        SpoolHall x = Check.hall("sl8w2;t;f;f;fb4;f;fb6;f;f;f");
        x.mount(0);
        x.ask(7);
        x.ask(5);
        x.ask(6);
        int[] due = {5 + 2 + 2, 3 + 2 + 2, 3 + 3 + 2};
        for (int order = 0; order < 3; order++) {
            check.due("takes(0, " + order + ")", x.takes(0, order), due[order]);
        }
        x.serve();
        check.due("order 1 takes less than 2, and 2 less than 0", x.tape(0, 2), 13);
        SpoolHall y = Check.hall("sl8w2;t;f;f;fb4;f;fb6;f;f;f");
        y.ask(2);
        y.serve();
        y.ask(5);
        y.ask(7);
        y.ask(0);
        int[] same = {6 + 5 + 3, 6 + 3 + 3, 6 + 3 + 3};
        for (int order = 0; order < 3; order++) {
            check.due("takes(0, " + order + ")", y.takes(0, order), same[order]);
        }
        y.serve();
        check.due("order 1, as 2 takes the same", y.tape(0, 2), 13);
    }

    @Edge(promise = 15, says = "2: TURN rising")
    static void orderTwoAlone(Check check) {
        SpoolHall x = Check.hall("sl8w2;t;f;f;fb4;f;fb6;f;f;f");
        x.mount(0);
        x.ask(0);
        x.ask(7);
        x.ask(2);
        check.due("takes(0, 0): 0, 2, 15", x.takes(0, 0), 1 + (2 + 4) + (5 + 2 + 1));
        check.due("takes(0, 1): of 2 and 15, both 2 away, the lower", x.takes(0, 1), 15);
        check.due("takes(0, 2): 0, 15, 2", x.takes(0, 2), 1 + (2 + 1) + (2 + 2 + 4));
        x.serve();
        logged(check, x, 1, 0, 12);
        check.due("order 2 was taken", x.tape(0, 2), 5);
    }

    @Edge(promise = 15, says = "the way of the HEAD to the first (SEEK) and how many they are")
    static void oneBlockWhereTheHeadIs(Check check) {
        SpoolHall x = Check.hall("t;f");
        x.mount(0);
        x.ask(0);
        x.serve();
        logged(check, x, 1, 0, 1);
        x.ask(0);
        x.serve();
        logged(check, x, 1, 0, 1);
        check.due("head", x.tape(0, 2), 0);
    }

    @Edge(promise = 15, says = "BLOCKS READ of a TAPE with WEAR above WORN are MENDED")
    static void wearAtWornAndOneAbove(Check check) {
        int[] wears = {0, 18, 19, 20, 99};
        int[] due = {0, 0, 0, 3, 3};
        for (int i = 0; i < wears.length; i++) {
            SpoolHall x = Check.hall("sg20;tu" + wears[i] + ";fb3;f");
            x.ask(0);
            x.serve();
            check.due("mended at wear " + x.tape(0, 4), x.tape(0, 5), due[i]);
        }
        SpoolHall x = Check.hall("sg99;tu99;fb3");
        x.ask(0);
        x.serve();
        check.due("wear 99 is not above 99", x.tape(0, 5), 0);
    }

    @Edge(promise = 15, says = "they are no longer ASKED for")
    static void twelveInOneServing(Check check) {
        SpoolHall x = Check.hall("sl16w1;t;t" + ";f".repeat(12) + ";ft1");
        askAll(x, 0, 12);
        check.due("serve()", x.serve(), 0);
        check.due("none is asked for", x.most(6), 0);
        check.due("mount, then twelve with a step between two", x.log(0, 2), 8 + 3 + 12 + 11);
        check.due("head", x.tape(0, 2), 11);
    }

    // ---- promise 16

    @Edge(promise = 16, says = "NONE: no such TAPE (STATUS 0)")
    static void writeOnNoSuchTape(Check check) {
        for (int tape : new int[] {-1, 4, 8, LOW, HIGH}) {
            refused(check, "write(" + tape + ", 1)", x -> x.write(tape, 1), NO_SUCH);
            refused(check, "write(" + tape + ", 0): of several the first", x -> x.write(tape, 0), NO_SUCH);
        }
        refusedWithoutHall(check, "write(0, 1)", x -> x.write(0, 1));
        refusedWithoutHall(check, "write(0, 0)", x -> x.write(0, 0));
        check.due("the eighth tape", Check.hall("t;t;t;t;t;t;t;t").write(7, 1), 0);
    }

    @Edge(promise = 16, says = "BLOCKS not 1 .. 9 (1)")
    static void writeTooFewOrTooMany(Check check) {
        for (int blocks : new int[] {0, 10, -1, LOW, HIGH}) {
            refused(check, "write(0, " + blocks + ")", x -> x.write(0, blocks), BOUNDS);
        }
        refusedIn(check, "sl4w1;t;fb4", x -> { }, "write(0, 10) without room", x -> x.write(0, 10), BOUNDS);
        refusedIn(check, "t" + ";f".repeat(24), x -> { }, "write(0, 0) of a 25th", x -> x.write(0, 0), BOUNDS);
        SpoolHall x = Check.hall("t;t");
        check.due("write(0, 1)", x.write(0, 1), 0);
        check.due("write(1, 9)", x.write(1, 9), 1);
        check.due("file(0, 2)", x.file(0, 2), 1);
        check.due("file(1, 2)", x.file(1, 2), 9);
    }

    @Edge(promise = 16, says = "there are 24 FILES, no room (3)")
    static void writeA24thAndA25th(Check check) {
        String text = "sl16;t;t" + ";f".repeat(23);
        SpoolHall x = Check.hall(text);
        check.due("a 24th", x.write(1, 1), 23);
        check.due("count(5)", x.count(5), 24);
        refusedIn(check, text, y -> y.write(1, 1), "a 25th", y -> y.write(1, 1), TOO_MUCH);
        refusedIn(check, text, y -> {
            y.write(1, 1);
            y.drop(23);
            y.drop(0);
        }, "a 25th, though two were dropped", y -> y.write(1, 1), TOO_MUCH);
        x.undo();
        check.due("a 24th behind an undone one", x.write(0, 2), 23);
    }

    @Edge(promise = 16, says = "there are 24 FILES, no room (3)")
    static void writeTheLastBlockAndOneMore(Check check) {
        for (int left = 1; left <= 9; left++) {
            String text = "sl5w2;t;t" + (left == 9 ? ";f" : left == 1 ? ";fb9" : ";fb" + (10 - left));
            int room = left;
            SpoolHall x = Check.hall(text);
            check.due("write(0, " + left + ") with so much room", x.write(0, left), 1);
            check.due("end", x.tape(0, 3), 10);
            check.due("head at the last block", x.tape(0, 2), 9);
            if (left < 9) {
                refusedIn(check, text, y -> { }, "one more", y -> y.write(0, room + 1), TOO_MUCH);
            }
            refusedIn(check, text, y -> y.write(0, room), "on a full tape", y -> y.write(0, 1), TOO_MUCH);
            refusedIn(check, text, y -> {
                y.write(0, room);
                y.drop(1);
            }, "on dead blocks", y -> y.write(0, 1), TOO_MUCH);
        }
    }

    @Edge(promise = 16, says = "(MOUNTED, if it is in no DRIVE): BLOCKS behind END, END is more")
    static void writeOnAnEmptyTapeAndBehindFiles(Check check) {
        SpoolHall x = Check.hall("sn4l4w2m1a1;t;t;fb3");
        check.due("write(1, 2) of an empty one", x.write(1, 2), 1);
        logged(check, x, 2, 1, 1 + 3 + 1 + 2);
        check.due("start", x.file(1, 1), 0);
        check.due("write(1, 1) in its drive, head at 1", x.write(1, 1), 2);
        logged(check, x, 2, 1, 1 + 1);
        check.due("start", x.file(2, 1), 2);
        check.due("write(0, 5)", x.write(0, 5), 3);
        check.due("unmount 1 (seek 2), mount 0, seek 3", x.log(0, 2), (2 + 1 + 0 + 3) + (1 + 4 + 1) + 3 + 5);
        check.due("end", x.tape(0, 3), 8);
    }

    @Edge(promise = 16, says = "they are a new FILE, KNOWN")
    static void aNewFileBehindALoss(Check check) {
        SpoolHall x = Check.hall("t;f");
        x.lose();
        x.write(0, 1);
        check.due("known", x.file(1, 3), 1);
        check.due("the other is not", x.file(0, 3), 0);
        check.due("not asked for", x.file(1, 4), 0);
        check.due("it can be asked for", x.ask(1), 1);
    }

    @Edge(promise = 16, says = "BLOCKS READ of a TAPE with WEAR above WORN are MENDED")
    static void writingMendsNone(Check check) {
        SpoolHall x = Check.hall("sg1;tu99");
        x.write(0, 9);
        check.due("mended", x.tape(0, 5), 0);
    }

    // ---- promise 17

    @Edge(promise = 17, says = "NONE: no such FILE, it was (STATUS 0).")
    static void dropNoSuchFile(Check check) {
        for (int file : new int[] {-1, 5, 24, LOW, HIGH}) {
            refused(check, "drop(" + file + ")", x -> x.drop(file), NO_SUCH);
        }
        refused(check, "drop(3), which was dropped", x -> x.drop(3), NO_SUCH);
        refusedWithoutHall(check, "drop(0)", x -> x.drop(0));
        refusedIn(check, "t", x -> { }, "drop(0)", x -> x.drop(0), NO_SUCH);
        check.due("drop(23)", Check.hall("t" + ";f".repeat(24)).drop(23), 1);
    }

    @Edge(promise = 17, says = "DROPPED: its BLOCKS.")
    static void dropOneAndNineBlocks(Check check) {
        SpoolHall x = Check.hall("t;f;fb9");
        check.due("drop(0)", x.drop(0), 1);
        check.due("drop(1)", x.drop(1), 9);
        logged(check, x, 3, 1, 0);
        check.due("no time", x.most(0), 0);
        check.due("none is left", x.most(4), 0);
        check.due("their numbers stay", x.count(5), 2);
    }

    @Edge(promise = 17, says = "DROPPED: a FILE is gone (ASKED for no more; its BLOCKS are DEAD)")
    static void dropWhatIsAskedForOrNotKnown(Check check) {
        SpoolHall x = Check.hall("t;fb2;fb3");
        x.ask(1);
        x.drop(1);
        check.due("asked for", x.most(6), 0);
        check.due("dead", x.tape(0, 8), 3);
        x.lose();
        check.due("one that is not known", x.drop(0), 2);
        check.due("dead", x.tape(0, 8), 5);
    }

    // ---- promise 18

    @Edge(promise = 18, says = "NONE: no such TAPE (STATUS 0), it is in one (2).")
    static void mountNoSuchTapeOrOneInADrive(Check check) {
        for (int tape : new int[] {-1, 4, 8, LOW, HIGH}) {
            refused(check, "mount(" + tape + ")", x -> x.mount(tape), NO_SUCH);
        }
        refused(check, "mount(0), which is in a drive", x -> x.mount(0), CANNOT);
        refused(check, "mount(1), which is in a drive", x -> x.mount(1), CANNOT);
        refusedWithoutHall(check, "mount(0)", x -> x.mount(0));
    }

    @Edge(promise = 18, says = "to the lowest empty DRIVE")
    static void theLowestEmptyDrive(Check check) {
        SpoolHall x = Check.hall("sd3;t;t;t;t");
        for (int tape = 0; tape < 3; tape++) {
            check.due("mount(" + tape + ")", x.mount(tape), tape);
        }
        x.unmount(1);
        check.due("into the middle one", x.mount(3), 1);
        x.unmount(0);
        x.unmount(2);
        check.due("into the first of two", x.mount(1), 0);
        check.due("into the last", x.mount(0), 2);
    }

    @Edge(promise = 18, says = "is no DRIVE empty, first that TAPE is UNMOUNTED that was used longest ago")
    static void allDrivesAreTaken(Check check) {
        SpoolHall x = Check.hall("sn4d2l4w2m2a3;t;t;t;t;fb3");
        x.mount(1);
        x.mount(0);
        check.due("one empty drive: none is unmounted", x.most(2), 3);
        int time = x.most(0);
        check.due("mount(2)", x.mount(2), 0);
        check.due("unmount 1, then mount 2", x.most(0) - time, 2 + 3 * 1 + 3 * 3 + 3 * 1 + 3 * 2 + 2);
        check.due("one act", x.count(4), 3);
        x.scan(0);
        check.due("mount(1): 0 was read behind 2", x.mount(1), 0);
        x.write(0, 1);
        check.due("mount(3): 0 was written behind 1", x.mount(3), 0);
        check.due("mount(1): 0 was used longest ago, seek from 3", x.mount(1), 1);
        check.due("in drives", x.most(2), 10);
    }

    @Edge(promise = 18, says = "WEAR is one more (99 at most)")
    static void wearUpTo99(Check check) {
        int[] wears = {0, 97, 98, 99};
        int[] due = {1, 98, 99, 99};
        for (int i = 0; i < wears.length; i++) {
            SpoolHall x = Check.hall("tu" + wears[i]);
            x.mount(0);
            check.due("wear behind one", x.tape(0, 4), due[i]);
            x.unmount(0);
            check.due("unmounting wears nothing", x.tape(0, 4), due[i]);
            x.mount(0);
            check.due("wear behind two", x.tape(0, 4), Math.min(99, due[i] + 1));
        }
    }

    @Edge(promise = 18, says = "MOUNTED: the DRIVE.")
    static void theShortestAndTheLongestMount(Check check) {
        SpoolHall x = Check.hall("sn4d1m1a1;t;t;t;t");
        x.mount(3);
        logged(check, x, 4, 3, 3 + 1 + 1);
        SpoolHall y = Check.hall("sn10d3m9a5;t");
        y.mount(0);
        logged(check, y, 4, 0, 0 + 50 + 9);
        check.due("arm", y.most(1), 10);
    }

    // ---- promise 19

    @Edge(promise = 19, says = "NONE: no such TAPE (STATUS 0), it is in none (2).")
    static void unmountNoSuchTapeOrOneInItsSlot(Check check) {
        for (int tape : new int[] {-1, 4, 8, LOW, HIGH}) {
            refused(check, "unmount(" + tape + ")", x -> x.unmount(tape), NO_SUCH);
        }
        refused(check, "unmount(2), which is in its slot", x -> x.unmount(2), CANNOT);
        refusedWithoutHall(check, "unmount(0)", x -> x.unmount(0));
        Edges.refusedAct(check, "unmount(0) again", Edges.busy(x -> x.unmount(0)), x -> x.unmount(0), CANNOT);
    }

    @Edge(promise = 19, says = "UNMOUNTED: the DRIVE it was in.")
    static void fromTheFirstAndTheLastDrive(Check check) {
        SpoolHall x = Check.hall("sd3;t;t;t");
        x.mount(2);
        x.mount(1);
        x.mount(0);
        check.due("unmount(0)", x.unmount(0), 2);
        check.due("unmount(2)", x.unmount(2), 0);
        check.due("unmount(1)", x.unmount(1), 1);
        check.due("none is in a drive", x.most(2), 0);
    }

    @Edge(promise = 19, says = "To UNMOUNT a TAPE takes SEEK from its HEAD to BLOCK 0, MOUNT")
    static void headAtTheFirstAndTheLastBlock(Check check) {
        SpoolHall x = Check.hall("sn4l4w2m2a1;t;fb8");
        x.mount(0);
        x.unmount(0);
        logged(check, x, 5, 0, 0 + 2 + 0 + 4);
        check.due("the arm at its slot", x.most(1), 0);
        x.scan(0);
        x.unmount(0);
        logged(check, x, 5, 0, 2 + 2 + 0 + 4);
    }

    // ---- promise 20

    @Edge(promise = 20, says = "NONE: no such TAPES (STATUS 0)")
    static void copyNoSuchTapes(Check check) {
        int[][] none = {{-1, 2}, {4, 2}, {0, -1}, {0, 4}, {8, 8}, {LOW, 2}, {0, LOW}, {HIGH, 2}, {0, HIGH}, {-1, -1}};
        for (int[] at : none) {
            refused(check, "copy(" + at[0] + ", " + at[1] + ")", x -> x.copy(at[0], at[1]), NO_SUCH);
        }
        refusedWithoutHall(check, "copy(0, 1)", x -> x.copy(0, 1));
        refusedWithoutHall(check, "copy(0, 0)", x -> x.copy(0, 0));
        refusedIn(check, "t;f", x -> { }, "copy(0, 1)", x -> x.copy(0, 1), NO_SUCH);
        check.due("to the eighth", Check.hall("t;t;t;t;t;t;t;t;f").copy(0, 7), 1);
    }

    @Edge(promise = 20, says = "they are one, END of the other one is not 0, the one has no FILES (2)")
    static void copyWhatCanNotBe(Check check) {
        refused(check, "copy(0, 0)", x -> x.copy(0, 0), CANNOT);
        refused(check, "copy(2, 2), empty", x -> x.copy(2, 2), CANNOT);
        refused(check, "copy(0, 1)", x -> x.copy(0, 1), CANNOT);
        refused(check, "copy(2, 0)", x -> x.copy(2, 0), CANNOT);
        refusedIn(check, "t;t;t;f;ft1", x -> x.drop(0), "copy(0, 2), all dropped", x -> x.copy(0, 2), CANNOT);
        refusedIn(check, "t;t;t;f;ft1", x -> x.drop(0), "copy(1, 0), dead blocks alone", x -> x.copy(1, 0), CANNOT);
        refusedIn(check, "t;t;t", x -> { }, "copy(0, 1), both empty", x -> x.copy(0, 1), CANNOT);
    }

    @Edge(promise = 20, says = "COPIED: how many FILES.")
    static void copyOneFileAnd24(Check check) {
        SpoolHall x = Check.hall("t;t;f");
        check.due("one", x.copy(0, 1), 1);
        check.due("back", x.copy(1, 0), 1);
        SpoolHall y = Check.hall("sl16;t;t" + ";f".repeat(24));
        check.due("24", y.copy(0, 1), 24);
        for (int file = 0; file < 24; file++) {
            check.due("tape of " + file, y.file(file, 0), 1);
            check.due("start of " + file, y.file(file, 1), file);
        }
        check.due("no more files", y.count(5), 24);
    }

    @Edge(promise = 20, says = "they are WRITTEN there, in this order, from BLOCK 0 on, KNOWN then")
    static void copyAFullTape(Check check) {
        SpoolHall x = Check.hall("sl4w3;t;t;fb9;fb2;f");
        x.lose();
        x.drop(1);
        check.due("copy(0, 1)", x.copy(0, 1), 2);
        check.due("start of the first", x.file(0, 1), 0);
        check.due("start of the last", x.file(2, 1), 9);
        check.due("end of the other", x.tape(1, 3), 10);
        check.due("dead of the other", x.tape(1, 8), 0);
        check.due("known", x.most(5), 2);
        SpoolHall full = Check.hall("sl4w2;t;t;fb8");
        full.copy(0, 1);
        check.due("a full one", full.tape(1, 3), 8);
        check.due("head at the last block", full.tape(1, 2), 7);
    }

    @Edge(promise = 20, says = "its FILES are READ, START rising (KNOWN or not)")
    static void copyOverDeadBlocks(Check check) {
        SpoolHall x = Check.hall("sn4d2l16w1m1a1;t;t;fb2;fb3;f;fb2");
        x.mount(0);
        x.mount(1);
        x.lose();
        x.drop(1);
        check.due("copy(0, 1)", x.copy(0, 1), 3);
        int read = 2 + (4 + 1) + (1 + 2);
        int written = 2 + (1 + 1) + (1 + 2);
        logged(check, x, 6, 0, read + written);
        int[] starts = {0, 2, 3};
        int[] files = {0, 2, 3};
        for (int i = 0; i < 3; i++) {
            check.due("start of " + files[i], x.file(files[i], 1), starts[i]);
        }
        check.due("head of the one", x.tape(0, 2), 7);
    }

    @Edge(promise = 20, says = "END of the one is 0, MENDED 0")
    static void theOneIsEmptyThen(Check check) {
        SpoolHall x = Check.hall("sd2g1;tu5;t;fb3;fb2");
        x.scan(0);
        check.due("mended ahead", x.tape(0, 5), 5);
        x.drop(1);
        x.copy(0, 1);
        int[] due = {0, 6, 0, 0, 0, 0};
        for (int what = 0; what < 6; what++) {
            check.due("tape(0, " + (what + 3) + ")", x.tape(0, what + 3), due[what]);
        }
        check.due("mended of all", x.most(7), 0);
        check.due("it can be written on from 0 on", x.write(0, 9), 2);
        check.due("start", x.file(2, 1), 0);
    }

    @Edge(promise = 20, says = "the one is MOUNTED, if it is in no DRIVE")
    static void copyWithOneDrive(Check check) {
        SpoolHall x = Check.hall("sn4l4w2m1a1;t;t;fb2");
        x.copy(0, 1);
        int mounted = 4 + 1 + 2;
        int unmounted = 1 + 1 + 0 + 4;
        int other = 1 + 3 + 1 + 2;
        logged(check, x, 6, 0, mounted + unmounted + other);
        check.due("the other is in the drive", x.drive(0), 1);
        check.due("wear of the one", x.tape(0, 4), 1);
        check.due("wear of the other", x.tape(1, 4), 1);
        SpoolHall y = Check.hall("sn4d2l4w2m1a1;t;t;fb2");
        y.mount(1);
        y.mount(0);
        y.copy(0, 1);
        logged(check, y, 6, 0, 2 + 2);
        check.due("no wear when both are in drives", y.tape(0, 4) + y.tape(1, 4), 2);
    }

    // ---- promise 21

    @Edge(promise = 21, says = "NONE: no HALL (STATUS 0), none is KNOWN (2).")
    static void nothingToLose(Check check) {
        refusedWithoutHall(check, "lose()", x -> x.lose());
        refusedIn(check, "t", x -> { }, "lose() without files", x -> x.lose(), CANNOT);
        refusedIn(check, "t;f;f", x -> {
            x.drop(0);
            x.drop(1);
        }, "lose() of dropped ones", x -> x.lose(), CANNOT);
        Edges.refusedAct(check, "lose() again", Edges.busy(x -> x.lose()), x -> x.lose(), CANNOT);
        Edges.refusedAct(check, "lose() of one not known and one dropped", Edges.busy(x -> {
            x.lose();
            x.write(2, 1);
            x.drop(5);
        }), x -> x.lose(), CANNOT);
    }

    @Edge(promise = 21, says = "LOST: how many FILES were KNOWN.")
    static void loseOneAndAll(Check check) {
        check.due("24", Check.hall("t" + ";f".repeat(24)).lose(), 24);
        SpoolHall x = Check.hall("t;f;f");
        x.drop(0);
        check.due("one that is left", x.lose(), 1);
        logged(check, x, 7, NONE, 0);
        x.write(0, 1);
        check.due("one that is new", x.lose(), 1);
    }

    @Edge(promise = 21, says = "no FILE is KNOWN (nothing is ASKED for)")
    static void twelveAreAskedForNoMore(Check check) {
        SpoolHall x = Check.hall("t;t" + ";f".repeat(12));
        askAll(x, 0, 12);
        x.lose();
        check.due("asked for", x.most(6), 0);
        check.due("known", x.most(5), 0);
        check.due("there", x.most(4), 12);
        check.due("all(2)", x.all(2), 0);
    }

    // ---- promise 22

    @Edge(promise = 22, says = "NONE: no such TAPE (STATUS 0).")
    static void scanNoSuchTape(Check check) {
        for (int tape : new int[] {-1, 4, 8, LOW, HIGH}) {
            refused(check, "scan(" + tape + ")", x -> x.scan(tape), NO_SUCH);
        }
        refusedWithoutHall(check, "scan(0)", x -> x.scan(0));
        check.due("the eighth", Check.hall("t;t;t;t;t;t;t;t").scan(7), 0);
    }

    @Edge(promise = 22, says = "all its BLOCKS ahead of END are READ (END 0: none)")
    static void scanAnEmptyTape(Check check) {
        SpoolHall x = Check.hall("sn4m1g1;tu9");
        check.due("scan(0)", x.scan(0), 0);
        logged(check, x, 8, 0, 4 + 1);
        check.due("it is mounted", x.drive(0), 0);
        check.due("head", x.tape(0, 2), 0);
        check.due("mended", x.tape(0, 5), 0);
        check.due("scan(0) in its drive", x.scan(0), 0);
        logged(check, x, 8, 0, 0);
        check.due("an act all the same", x.count(4), 2);
    }

    @Edge(promise = 22, says = "all its BLOCKS ahead of END are READ (END 0: none)")
    static void scanAFullTapeAndDeadBlocks(Check check) {
        SpoolHall x = Check.hall("sn4l4w2m1g1;tu9;fb8");
        x.drop(0);
        check.due("scan(0)", x.scan(0), 0);
        logged(check, x, 8, 0, 4 + 1 + 8);
        check.due("head at the last block", x.tape(0, 2), 7);
        check.due("dead blocks are mended too", x.tape(0, 5), 8);
        x.scan(0);
        logged(check, x, 8, 0, 2 + 8);
        check.due("that many more", x.tape(0, 5), 16);
        SpoolHall one = Check.hall("sn4m1;t;f");
        one.scan(0);
        logged(check, one, 8, 0, 4 + 1 + 1);
        check.due("head", one.tape(0, 2), 0);
    }

    @Edge(promise = 22, says = "READ through: how many FILES of it were not KNOWN.")
    static void noneOneAndAllWereNotKnown(Check check) {
        SpoolHall x = Check.hall("t;t" + ";f".repeat(22) + ";ft1;ft1");
        check.due("all are known", x.scan(0), 0);
        x.lose();
        x.drop(0);
        check.due("21 are not, one is gone", x.scan(0), 21);
        check.due("those of the other stay unknown", x.file(22, 3), 0);
        check.due("again", x.scan(0), 0);
        check.due("the other", x.scan(1), 2);
        check.due("the one that is gone stays so", x.file(0, 3), 0);
        check.due("known", x.most(5), 23);
    }

    @Edge(promise = 22, says = "BLOCKS READ of a TAPE with WEAR above WORN are MENDED")
    static void scanAtWornAndAbove(Check check) {
        SpoolHall x = Check.hall("sg5;tu4;tu5;fb3;ft1b4");
        x.scan(0);
        check.due("wear 5 is not above 5", x.tape(0, 5), 0);
        x.scan(1);
        check.due("wear 6 is", x.tape(1, 5), 4);
        check.due("of all", x.most(7), 4);
    }

    // ---- promise 23

    @Edge(promise = 23, says = "NONE: no HALL (STATUS 0), not 1 .. 99 (1).")
    static void pauseTooShortOrTooLong(Check check) {
        for (int n : new int[] {0, 100, -1, LOW, HIGH}) {
            refused(check, "pause(" + n + ")", x -> x.pause(n), BOUNDS);
            refusedWithoutHall(check, "pause(" + n + ")", x -> x.pause(n));
        }
        refusedWithoutHall(check, "pause(1)", x -> x.pause(1));
    }

    @Edge(promise = 23, says = "A PAUSE of n (1 .. 99): TIME is n more")
    static void theShortestAndTheLongestPause(Check check) {
        SpoolHall x = Check.hall("t");
        check.due("pause(1)", x.pause(1), 0);
        logged(check, x, 9, 1, 1);
        check.due("pause(99)", x.pause(99), 0);
        logged(check, x, 9, 99, 99);
        check.due("time", x.most(0), 100);
    }

    @Edge(promise = 23, says = "is more than IDLE ago")
    static void justIdleAndOneMore(Check check) {
        for (int idle : new int[] {1, 30, 98}) {
            SpoolHall x = Check.hall("si" + idle + ";t");
            x.mount(0);
            check.due("pause of " + idle, x.pause(idle), 0);
            check.due("it stays", x.drive(0), 0);
            check.due("one more", x.pause(1), 1);
            check.due("it is in its slot", x.drive(0), NONE);
            x.undo();
            x.undo();
            check.due("pause of " + (idle + 1), x.pause(idle + 1), 1);
        }
        SpoolHall x = Check.hall("si99;t");
        x.mount(0);
        check.due("pause(99) at idle 99", x.pause(99), 0);
        check.due("pause(1) behind it", x.pause(1), 1);
    }

    @Edge(promise = 23, says = "as TIME is ahead of all these")
    static void unmountingTakesNoOtherOneOut(Check check) {
        SpoolHall x = Check.hall("sn4d2m9a5i10;t;t");
        x.mount(0);
        x.mount(1);
        check.due("pause(5): 0 alone", x.pause(5), 1);
        check.due("1 was used 5 ahead of unmounting 0", x.drive(1), 1);
        check.due("now long ago", x.tape(1, 10) > 10, true);
        check.due("pause(1)", x.pause(1), 1);
    }

    @Edge(promise = 23, says = "each TAPE in a DRIVE, numbers rising")
    static void allDrivesAreEmptied(Check check) {
        SpoolHall x = Check.hall("sn4d3m1a1i1;t;t;t;t");
        x.mount(2);
        x.mount(0);
        x.mount(1);
        int arm = x.most(1);
        check.due("pause(2)", x.pause(2), 3);
        check.due("the last is at its slot", x.most(1), 2);
        int first = Math.abs(arm - 5) + 5;
        int second = 6 + 5;
        int third = 3 + 2;
        logged(check, x, 9, 2, 2 + (1 + first) + (1 + second) + (1 + third));
        check.due("none is in a drive", x.most(2), 0);
        check.due("pause(99) of none", x.pause(99), 0);
    }

    // ---- promise 24

    @Edge(promise = 24, says = "NONE: no HALL (STATUS 0), none is WEAK, none of these has a TARGET (2).")
    static void nothingToRescue(Check check) {
        refusedWithoutHall(check, "rescue()", x -> x.rescue());
        refusedIn(check, "t", x -> { }, "rescue() of an empty hall", x -> x.rescue(), CANNOT);
        refusedIn(check, "sg5;tu5;t;f", x -> { }, "wear 5 is not above 5", x -> x.rescue(), CANNOT);
        refusedIn(check, "sg99;tu99;t;f", x -> { }, "wear 99 is not above 99", x -> x.rescue(), CANNOT);
        refusedIn(check, "sg5;tu6;t", x -> { }, "a worn one without files", x -> x.rescue(), CANNOT);
        refusedIn(check, "sg5;tu6;t;f", x -> x.drop(0), "all its files dropped", x -> x.rescue(), CANNOT);
        refusedIn(check, "sg5;tu6;f", x -> { }, "no other tape", x -> x.rescue(), CANNOT);
        refusedIn(check, "sg5;tu6;t;f;ft1", x -> { }, "no empty tape", x -> x.rescue(), CANNOT);
        refusedIn(check, "sg5;tu6;t;f;ft1", x -> x.drop(1), "dead blocks alone", x -> x.rescue(), CANNOT);
    }

    @Edge(promise = 24, says = "WEAK ones: TAPES with WEAR above WORN that have FILES")
    static void wearOneAboveWorn(Check check) {
        SpoolHall x = Check.hall("sg5;tu6;t;f");
        check.due("weak", x.most(3), 1);
        check.due("rescue()", x.rescue(), 1);
        check.due("its file", x.file(0, 0), 1);
        check.due("weak then", x.most(3), 0);
        SpoolHall y = Check.hall("sg5;tu5;t;f");
        y.mount(0);
        check.due("weak by being mounted", y.most(3), 1);
        check.due("rescue()", y.rescue(), 1);
    }

    @Edge(promise = 24, says = "each TAPE that is WEAK at first, numbers rising, is COPIED to its TARGET as it is then")
    static void eachToTheTapeThatIsEmptyThen(Check check) {
        SpoolHall x = Check.hall("sg1;tu2;tu3;tu4;t;f;ft1b2;ft2b3");
        check.due("rescue()", x.rescue(), 3);
        int[] due = {3, 0, 1};
        for (int file = 0; file < 3; file++) {
            check.due("tape of " + file, x.file(file, 0), due[file]);
        }
        check.due("the last got empty", x.most(10), 4);
        logged(check, x, 10, 3, x.most(0));
        check.due("one act", x.count(4), 1);
        check.due("undo()", x.undo(), 0);
        check.due("as it was", x.file(2, 0), 2);
    }

    @Edge(promise = 24, says = "each TAPE that is WEAK at first")
    static void oneThatGetsWeakByItIsLeft(Check check) {
        SpoolHall x = Check.hall("sg5;tu6;tu5;f");
        check.due("rescue()", x.rescue(), 1);
        check.due("the target is worn by being mounted", x.tape(1, 4), 6);
        check.due("it is weak now", x.most(3), 2);
        check.due("and keeps the file", x.file(0, 0), 1);
    }

    @Edge(promise = 24, says = "A RESCUE: how many are COPIED.")
    static void sevenOfEight(Check check) {
        SpoolHall x = Check.hall("sg1;tu9;tu9;tu9;tu9;tu9;tu9;tu9;tu9;f;ft1;ft2;ft3;ft4;ft5;ft6");
        check.due("rescue()", x.rescue(), 7);
        check.due("number in the log", x.log(0, 1), 7);
        check.due("mended", x.most(7), 0);
    }
}
