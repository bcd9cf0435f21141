import java.util.function.Supplier;
import java.util.function.ToIntFunction;

/** One test for each sentence of promises 29 to 37 and 39 to 41, and of "Terms" behind them, that names a boundary. */
public final class PlanEdgesTest {
    private static final int NONE = Check.NONE;
    private static final int HIDDEN = Check.HIDDEN;
    private static final int LOW = Integer.MIN_VALUE;
    private static final int HIGH = Integer.MAX_VALUE;

    public static void main(String[] args) {
        Edges.runAll(PlanEdgesTest.class);
    }

    private static Supplier<SpoolHall> busy() {
        return Edges.busy(x -> { });
    }

    private static void refused(Check check, String call, ToIntFunction<SpoolHall> asked, int answer) {
        Edges.changesNothing(check, call, busy(), asked, answer);
        Edges.changesNothing(check, call + " without a hall", Edges::empty, asked, answer);
    }

    private static void askAll(SpoolHall x, int from, int to) {
        for (int file = from; file < to; file++) {
            x.ask(file);
        }
    }

    @Edge(promise = 31, says = "(Apart, from as it is now.)")
    static void askingWhatWouldBeChangesNothing(Check check) {
        java.util.List<ToIntFunction<SpoolHall>> questions = java.util.List.of(x -> x.takes(1, 2), x -> x.least(1),
            x -> x.all(0), x -> x.all(1), x -> x.all(2), x -> x.served(0), x -> x.soon(2), x -> x.target(0),
            x -> x.cheap(3), x -> x.idle(99), x -> x.shares(0, 999), x -> x.run(0, 0), x -> x.run(0, 1));
        for (int i = 0; i < questions.size(); i++) {
            ToIntFunction<SpoolHall> question = questions.get(i);
            int due = question.applyAsInt(busy().get());
            check.due("question " + i + " is answered", due != NONE && due != HIDDEN || i == 11, true);
            Edges.changesNothing(check, "question " + i, busy(), question, due);
        }
    }

    // ---- promise 29

    @Edge(promise = 29, says = "NONE: no such ones.")
    static void noSuchOrders(Check check) {
        int[][] none = {{-1, 0}, {4, 0}, {8, 0}, {LOW, 0}, {HIGH, 0}, {0, -1}, {0, 3}, {1, 3}, {0, LOW}, {0, HIGH}};
        for (int[] at : none) {
            refused(check, "takes(" + at[0] + ", " + at[1] + ")", x -> x.takes(at[0], at[1]), NONE);
        }
        Edges.changesNothing(check, "takes(0, 0) without a hall", Edges::empty, x -> x.takes(0, 0), NONE);
        check.due("the eighth", Check.hall("t;t;t;t;t;t;t;t").takes(7, 2), 0);
    }

    @Edge(promise = 29, says = "(0 .. 2; 0, if none of its FILES is ASKED for)")
    static void noneIsAskedForThenOne(Check check) {
        SpoolHall x = Check.hall("t;t;f;ft1b9;fb4");
        for (int order = 0; order < 3; order++) {
            check.due("none, takes(0, " + order + ")", x.takes(0, order), 0);
        }
        x.ask(2);
        for (int order = 0; order < 3; order++) {
            check.due("one, takes(0, " + order + ")", x.takes(0, order), 1 + 4);
            check.due("none of the other", x.takes(1, order), 0);
        }
        x.drop(2);
        check.due("none again", x.takes(0, 0), 0);
    }

    @Edge(promise = 29, says = "from its HEAD (in its SLOT: from BLOCK 0)")
    static void inItsSlotAndInADrive(Check check) {
        SpoolHall x = Check.hall("sl16w1;t;fb5;fb5;fb2");
        x.ask(1);
        check.due("in its slot", x.takes(0, 0), 5 + 5);
        x.mount(0);
        check.due("as it is mounted", x.takes(0, 0), 5 + 5);
        x.scan(0);
        check.due("from the last block", x.takes(0, 0), 6 + 5);
        x.unmount(0);
        check.due("in its slot again", x.takes(0, 0), 5 + 5);
    }

    @Edge(promise = 29, says = "of several the one with the lower START")
    static void equallyNearOnes(Check check) {
        SpoolHall x = Check.hall("sl16w1;t" + ";f".repeat(9));
        x.ask(4);
        x.serve();
        x.ask(6);
        x.ask(2);
        x.ask(8);
        check.due("4 to 2, 6, 8", x.takes(0, 1), 2 + 4 + 2 + 3);
        SpoolHall y = Check.hall("sl4w2;t" + ";f".repeat(8));
        y.ask(3);
        y.serve();
        y.ask(5);
        y.ask(0);
        check.due("3 to 0, both are 3 away, then 5", y.takes(0, 1), (3 + 1) + (2 + 2 + 1));
    }

    @Edge(promise = 29, says = "1: from the HEAD on that whose START is nearest by SEEK")
    static void nearestBySeekNotByNumber(Check check) {
        SpoolHall x = Check.hall("sl4w2;t" + ";f".repeat(8));
        x.ask(2);
        x.ask(7);
        check.due("both are 2 from 0: the lower, then 7", x.takes(0, 1), (2 + 1) + (2 + 2 + 1));
        x.ask(3);
        check.due("2, 3, then 7", x.takes(0, 1), (2 + 1) + (1 + 1) + (3 + 2 + 1));
        SpoolHall y = Check.hall("sl4w2;t" + ";f".repeat(8));
        y.ask(3);
        y.ask(7);
        check.due("7 by number farther, by seek nearer", y.takes(0, 1), (2 + 1) + (3 + 2 + 1));
        check.due("order 0", y.takes(0, 0), (3 + 1) + (3 + 2 + 1));
    }

    @Edge(promise = 29, says = "of several the one with the lower START, and so on")
    static void equallyNearOnesBehindTheFirst(Check check) {
        SpoolHall x = Check.hall("sl4w2;t;f;f;fb2;fb2;f;f");
        x.ask(5);
        x.serve();
        check.due("head", x.tape(0, 2), 7);
        x.ask(5);
        x.ask(3);
        x.ask(1);
        check.due("7, then of 1 and 4, both 3 away, 1", x.takes(0, 1), 1 + (3 + 1) + (2 + 2 + 2));
        SpoolHall y = Check.hall("sl4w2;t" + ";f".repeat(8));
        y.ask(7);
        y.serve();
        y.ask(7);
        y.ask(5);
        y.ask(1);
        check.due("7, then 5, which is nearer than 1", y.takes(0, 1), 1 + (2 + 1) + (1 + 2 + 1));
    }

    @Edge(promise = 29, says = "2: TURN rising")
    static void twelveByTheirTurns(Check check) {
        SpoolHall x = Check.hall("sl16w1;t" + ";f".repeat(12));
        for (int file = 11; file >= 0; file--) {
            x.ask(file);
        }
        check.due("takes(0, 0)", x.takes(0, 0), 12 + 11);
        check.due("takes(0, 1)", x.takes(0, 1), 12 + 11);
        check.due("takes(0, 2)", x.takes(0, 2), 11 + 12 + 11);
    }

    // ---- promise 30

    @Edge(promise = 30, says = "NONE: no such TAPE.")
    static void leastOfNoSuchTape(Check check) {
        for (int tape : new int[] {-1, 4, 8, LOW, HIGH}) {
            refused(check, "least(" + tape + ")", x -> x.least(tape), NONE);
        }
        Edges.changesNothing(check, "least(0) without a hall", Edges::empty, x -> x.least(0), NONE);
    }

    @Edge(promise = 30, says = "LEAST (0, if none of its FILES is ASKED for).")
    static void leastOfNoneOneAndTwelve(Check check) {
        SpoolHall x = Check.hall("sl16w1;t;t" + ";f".repeat(12) + ";ft1b9");
        check.due("none", x.least(0), 0);
        x.ask(11);
        check.due("one", x.least(0), 11 + 1);
        check.due("none of the other", x.least(1), 0);
        for (int file : new int[] {3, 0, 7, 1, 9, 2, 10, 4, 8, 6, 5}) {
            x.ask(file);
        }
        check.due("twelve", x.most(6), 12);
        check.due("twelve", x.least(0), 11 + 12);
        x.serve();
        check.due("none again", x.least(0), 0);
        x.ask(0);
        x.ask(1);
        check.due("two from the far end", x.least(0), 10 + 1 + 2);
    }

    @Edge(promise = 30, says = "LEAST of a TAPE")
    static void leastOfOneMoreEachTime(Check check) {
        SpoolHall x = Check.hall("sl16w1;t" + ";f".repeat(12));
        for (int file = 0; file < 12; file++) {
            x.ask(file);
            check.due("least of " + (file + 1), x.least(0), file + file + 1);
        }
        for (int file = 11; file > 0; file--) {
            x.drop(file);
            check.due("least of " + file, x.least(0), file - 1 + file);
        }
    }

    @Edge(promise = 30, says = "of all rows into which these FILES can be put (not of the three ORDERS alone)")
    static void lessThanAllThreeOrders(Check check) {
        SpoolHall x = Check.hall("sl8w2;t;f;f;fb4;f;fb6;f;f;f");
        for (int file : new int[] {3, 1, 5, 7}) {
            x.ask(file);
        }
        for (int order = 0; order < 3; order++) {
            check.due("takes(0, " + order + ")", x.takes(0, order) > 16, true);
        }
        check.due("least(0)", x.least(0), 16);
    }

    // ---- promise 31

    @Edge(promise = 31, says = "NONE: no HALL, no such what.")
    static void noSuchAll(Check check) {
        for (int what : new int[] {-1, 3, LOW, HIGH}) {
            refused(check, "all(" + what + ")", x -> x.all(what), NONE);
        }
        for (int what = 0; what < 3; what++) {
            int asked = what;
            Edges.changesNothing(check, "all(" + what + ") without a hall", Edges::empty, x -> x.all(asked), NONE);
            check.due("nothing is asked for", Check.hall("t;f").all(what), 0);
        }
    }

    @Edge(promise = 31, says = "how often a TAPE would be MOUNTED by that")
    static void mountedNeverAndEightTimes(Check check) {
        SpoolHall in = Check.hall("t;f");
        in.mount(0);
        in.ask(0);
        check.due("time of one block at the head", in.all(0), 1);
        check.due("never", in.all(1), 0);
        check.due("one serving", in.all(2), 1);
        StringBuilder files = new StringBuilder();
        for (int tape = 0; tape < 8; tape++) {
            files.append(";ft").append(tape);
        }
        SpoolHall x = Check.hall("t;t;t;t;t;t;t;t" + files + ";ft7;ft6;ft5;ft7");
        askAll(x, 0, 12);
        check.due("eight servings", x.all(2), 8);
        check.due("eight times", x.all(1), 8);
        int[] due = {7, 5, 6, 0, 1, 2, 3, 4};
        int time = x.all(0);
        for (int i = 0; i < 8; i++) {
            check.due("served(" + i + ")", x.served(i), due[i]);
        }
        check.due("served(8)", x.served(8), NONE);
        for (int i = 0; i < 8; i++) {
            check.due("serve()", x.serve(), due[i]);
        }
        check.due("time", x.most(0), time);
    }

    @Edge(promise = 31, says = "how often a TAPE would be MOUNTED by that")
    static void mountedThoughItIsWornTo99(Check check) {
        SpoolHall x = Check.hall("tu99;tu99;f;ft1");
        x.mount(1);
        x.ask(0);
        x.ask(1);
        check.due("once, though no wear is more", x.all(1), 1);
        check.due("two servings", x.all(2), 2);
    }

    @Edge(promise = 31, says = "how much TIME it would take till nothing is ASKED for")
    static void notTheTimeOfTheClock(Check check) {
        SpoolHall x = Check.hall("sn4m1;t;f");
        x.pause(50);
        x.ask(0);
        check.due("all(0)", x.all(0), 4 + 1 + 1);
    }

    // ---- promise 32

    @Edge(promise = 32, says = "NONE: no such one.")
    static void servedNoSuch(Check check) {
        for (int i : new int[] {-1, 1, 8, LOW, HIGH}) {
            refused(check, "served(" + i + ")", x -> x.served(i), NONE);
        }
        Edges.changesNothing(check, "served(0) without a hall", Edges::empty, x -> x.served(0), NONE);
        Edges.changesNothing(check, "served(0) of nothing", Edges.busy(x -> x.serve()), x -> x.served(0), NONE);
        check.due("the first", busy().get().served(0), 1);
    }

    // ---- promise 33

    @Edge(promise = 33, says = "NONE: no such FILE, it is not ASKED for.")
    static void soonOfNoSuchFile(Check check) {
        for (int file : new int[] {-1, 5, 24, LOW, HIGH}) {
            refused(check, "soon(" + file + ")", x -> x.soon(file), NONE);
        }
        refused(check, "soon(0), not asked for", x -> x.soon(0), NONE);
        refused(check, "soon(3), dropped", x -> x.soon(3), NONE);
        Edges.changesNothing(check, "soon(1), whose tape will be served", Edges.busy(x -> x.ask(0)), x -> x.soon(1), NONE);
        Edges.changesNothing(check, "soon(2), lost", Edges.busy(x -> x.lose()), x -> x.soon(2), NONE);
        Edges.changesNothing(check, "soon(2), served", Edges.busy(x -> x.serve()), x -> x.soon(2), NONE);
        Edges.changesNothing(check, "soon(2), dropped", Edges.busy(x -> x.drop(2)), x -> x.soon(2), NONE);
    }

    @Edge(promise = 33, says = "SOON (1: by the next one).")
    static void byTheNextAndByTheLast(Check check) {
        StringBuilder files = new StringBuilder();
        for (int tape = 7; tape >= 0; tape--) {
            files.append(";ft").append(tape);
        }
        SpoolHall x = Check.hall("t;t;t;t;t;t;t;t" + files);
        x.mount(3);
        askAll(x, 0, 8);
        int[] due = {8, 7, 6, 5, 1, 4, 3, 2};
        for (int file = 0; file < 8; file++) {
            check.due("soon(" + file + ")", x.soon(file), due[file]);
        }
    }

    // ---- promise 34

    @Edge(promise = 34, says = "NONE: none, no such TAPE, it has no FILES.")
    static void noTarget(Check check) {
        for (int tape : new int[] {-1, 4, 8, LOW, HIGH}) {
            refused(check, "target(" + tape + ")", x -> x.target(tape), NONE);
        }
        refused(check, "target(2), without files", x -> x.target(2), NONE);
        Edges.changesNothing(check, "target(0) without a hall", Edges::empty, x -> x.target(0), NONE);
        check.due("no other tape", Check.hall("t;f").target(0), NONE);
        check.due("no empty tape", Check.hall("t;t;f;ft1").target(0), NONE);
        SpoolHall x = Check.hall("t;t;t;f;ft1");
        x.drop(1);
        check.due("dead blocks are not END 0", x.target(0), 2);
        check.due("all dropped", x.target(1), NONE);
    }

    @Edge(promise = 34, says = "with the least WEAR (of several the lowest)")
    static void theLeastWorn(Check check) {
        check.due("of several the lowest", Check.hall("t;tu3;tu2;tu2;f").target(0), 2);
        check.due("the last", Check.hall("t;tu99;tu98;f").target(0), 2);
        check.due("the first", Check.hall("t;t;t;ft2").target(2), 0);
        check.due("worn to 99", Check.hall("t;tu99;f").target(0), 1);
        SpoolHall x = Check.hall("t;t;t;f");
        x.mount(1);
        check.due("wear by mounting", x.target(0), 2);
    }

    // ---- promise 35

    @Edge(promise = 35, says = "NONE: none, BLOCKS not 1 .. 9.")
    static void nothingCheap(Check check) {
        for (int blocks : new int[] {0, 10, -1, LOW, HIGH}) {
            refused(check, "cheap(" + blocks + ")", x -> x.cheap(blocks), NONE);
        }
        Edges.changesNothing(check, "cheap(1) without a hall", Edges::empty, x -> x.cheap(1), NONE);
        SpoolHall x = Check.hall("sl4w2;t;t;fb7;ft1b6");
        check.due("cheap(1)", x.cheap(1), 0);
        check.due("cheap(2): the last room", x.cheap(2), 1);
        check.due("cheap(3): no room", x.cheap(3), NONE);
        check.due("cheap(9) of an empty tape", Check.hall("t").cheap(9), 0);
        check.due("no room for nine on any", Check.hall("sl4w2;t").cheap(9), NONE);
    }

    @Edge(promise = 35, says = "NONE: none")
    static void noneWith24Files(Check check) {
        check.due("23 files", Check.hall("t;t" + ";f".repeat(23)).cheap(1) != NONE, true);
        SpoolHall x = Check.hall("t;t" + ";f".repeat(24));
        check.due("24 files", x.cheap(1), NONE);
        check.due("as a write is refused", x.write(1, 1), NONE);
        x.drop(0);
        check.due("24, one dropped", x.cheap(1), NONE);
    }

    @Edge(promise = 35, says = "takes least TIME now (of several the lowest)")
    static void ofSeveralTheLowest(Check check) {
        SpoolHall x = Check.hall("sn4m1;t;t;t");
        check.due("all take 4 and 1 and 1", x.cheap(1), 0);
        x.mount(2);
        check.due("that in the drive", x.cheap(1), 2);
        check.due("the last", Check.hall("sl8w2;t;t;fb5;ft1").cheap(1), 1);
    }

    // ---- promise 36

    @Edge(promise = 36, says = "NONE: no HALL, not 1 .. 99.")
    static void idleOutOfBounds(Check check) {
        for (int n : new int[] {0, 100, -1, LOW, HIGH}) {
            refused(check, "idle(" + n + ")", x -> x.idle(n), NONE);
        }
        Edges.changesNothing(check, "idle(1) without a hall", Edges::empty, x -> x.idle(1), NONE);
        check.due("none is in a drive", Check.hall("t").idle(99), 0);
    }

    @Edge(promise = 36, says = "is more than IDLE ago")
    static void idleByOne(Check check) {
        SpoolHall x = Check.hall("si5;t");
        x.mount(0);
        check.due("idle(1)", x.idle(1), 0);
        check.due("idle(5)", x.idle(5), 0);
        check.due("idle(6)", x.idle(6), 1);
        check.due("idle(99)", x.idle(99), 1);
        SpoolHall y = Check.hall("si99;t");
        y.mount(0);
        check.due("idle(99) at 99", y.idle(99), 0);
    }

    @Edge(promise = 36, says = "Who would be UNMOUNTED by a PAUSE of n now (bits).")
    static void theLowestAndTheHighestBit(Check check) {
        SpoolHall x = Check.hall("sd3i1;t;t;t;t;t;t;t;t");
        x.mount(7);
        x.mount(0);
        x.mount(3);
        check.due("idle(1): but the last", x.idle(1), 128 + 1);
        check.due("idle(2): all three", x.idle(2), 128 + 8 + 1);
        check.due("pause(2)", x.pause(2), 3);
        check.due("idle(99) of none", x.idle(99), 0);
    }

    // ---- promise 37

    @Edge(promise = 37, says = "NONE: no such TAPE, out of bounds.")
    static void sharesOutOfBounds(Check check) {
        int[][] none = {{-1, 1}, {4, 1}, {LOW, 1}, {HIGH, 1}, {0, -1}, {0, 1000}, {0, LOW}, {0, HIGH}};
        for (int[] at : none) {
            refused(check, "shares(" + at[0] + ", " + at[1] + ")", x -> x.shares(at[0], at[1]), NONE);
        }
        Edges.changesNothing(check, "shares(0, 1) without a hall", Edges::empty, x -> x.shares(0, 1), NONE);
        check.due("out of bounds where no file is", Check.hall("t").shares(0, 1000), NONE);
    }

    @Edge(promise = 37, says = "c times its by those of all, cut (0: none has any)")
    static void sharesOfNoneAndOfAll(Check check) {
        check.due("no files", Check.hall("t;t").shares(0, 999), 0);
        SpoolHall x = Check.hall("t;t;t;fb4;ft1b2");
        check.due("c 0", x.shares(0, 0), 0);
        check.due("c 1, cut", x.shares(0, 1), 0);
        check.due("c 999", x.shares(0, 999), 666);
        check.due("c 999 of the other", x.shares(1, 999), 333);
        check.due("of an empty one", x.shares(2, 999), 0);
        check.due("cut just below", x.shares(1, 998), 332);
        x.drop(0);
        check.due("dead blocks count for none", x.shares(1, 999), 999);
        check.due("nor for their tape", x.shares(0, 999), 0);
        x.drop(1);
        check.due("all dropped", x.shares(1, 999), 0);
        SpoolHall big = Check.hall("sl16w6;t;t" + ";fb9".repeat(10) + ";ft1b9".repeat(10));
        check.due("the most blocks", big.shares(1, 999), 499);
    }

    // ---- promise 39

    private static SpoolHall withScripts() {
        SpoolHall x = Check.hall("sn4m1;t;t;fb2;f");
        Check.tell(x, "m9;s", 1);
        Check.tell(x, "p1;".repeat(15) + "p99", 1);
        Check.tell(x, "p1;".repeat(15) + "p0", 1);
        Check.tell(x, "a0;s;a0;d0;s", 1);
        x.pause(7);
        return x;
    }

    @Edge(promise = 39, says = "HIDDEN: no such SCRIPT, no HALL, no such what.")
    static void runNoSuchScript(Check check) {
        int[][] none = {{-1, 0}, {4, 0}, {4, 1}, {LOW, 0}, {HIGH, 0}, {0, -1}, {0, 2}, {3, 2}, {0, LOW}, {0, HIGH}};
        for (int[] at : none) {
            Edges.changesNothing(check, "run(" + at[0] + ", " + at[1] + ")", PlanEdgesTest::withScripts,
                x -> x.run(at[0], at[1]), HIDDEN);
            Edges.changesNothing(check, "run without a hall", Edges::empty, x -> x.run(at[0], at[1]), HIDDEN);
        }
        for (int what = 0; what < 2; what++) {
            int asked = what;
            Edges.changesNothing(check, "run(0, " + what + ") without a hall", Edges::empty, x -> x.run(0, asked), HIDDEN);
        }
        check.due("run(1, 0) of one script", busy().get().run(1, 0), HIDDEN);
        check.due("run(0, 0) of no scripts", Check.hall("t").run(0, 0), HIDDEN);
    }

    @Edge(promise = 39, says = "behind how many STEPS the first is that can't be; TIME behind these")
    static void theFirstTheLastOrNoStepCanNotBe(Check check) {
        SpoolHall x = withScripts();
        check.due("the first", x.run(0, 0), 0);
        check.due("time behind none", x.run(0, 1), 7);
        check.due("the sixteenth", x.run(2, 0), 15);
        check.due("time behind fifteen", x.run(2, 1), 7 + 15);
        check.due("the last of five", x.run(3, 0), 4);
        check.due("mount and two blocks", x.run(3, 1), 7 + 4 + 1 + 2);
    }

    @Edge(promise = 39, says = "behind how many (0; NONE: all can be)")
    static void allSixteenCanBe(Check check) {
        SpoolHall x = withScripts();
        check.due("run(1, 0)", x.run(1, 0), NONE);
        check.due("run(1, 1)", x.run(1, 1), 7 + 15 + 99);
    }

    @Edge(promise = 39, says = "(Apart, from as it is now.)")
    static void aRunChangesNothing(Check check) {
        int[] due = {0, NONE, 15, 4};
        for (int script = 0; script < 4; script++) {
            int asked = script;
            Edges.changesNothing(check, "run(" + script + ", 0)", PlanEdgesTest::withScripts, x -> x.run(asked, 0),
                due[script]);
        }
    }

    // ---- promise 40

    @Edge(promise = 40, says = "NONE: no such SCRIPT, no HALL.")
    static void performNoSuchScript(Check check) {
        for (int script : new int[] {-1, 1, 4, LOW, HIGH}) {
            refused(check, "perform(" + script + ")", x -> x.perform(script), NONE);
        }
        Edges.changesNothing(check, "perform(0) without a hall", Edges::empty, x -> x.perform(0), NONE);
        Edges.changesNothing(check, "perform(4) of four", PlanEdgesTest::withScripts, x -> x.perform(4), NONE);
    }

    @Edge(promise = 40, says = "DO: how many STEPS were done.")
    static void noneSomeAndSixteen(Check check) {
        int[] due = {0, 16, 15, 4};
        for (int script = 0; script < 4; script++) {
            SpoolHall x = withScripts();
            int time = x.run(script, 1);
            check.due("perform(" + script + ")", x.perform(script), due[script]);
            check.due("time", x.most(0), time);
            check.due("each is an act", x.count(4), 1 + due[script]);
            check.due("each is in the log", x.count(3), 1 + due[script]);
        }
    }

    @Edge(promise = 40, says = "its STEPS as ACTS, up to there (no STATUS)")
    static void whatCanNotBeLeavesNoStatus(Check check) {
        Edges.changesNothing(check, "perform(0), whose first step can't be", PlanEdgesTest::withScripts,
            x -> x.perform(0), 0);
        String[] steps = {"a99", "w9,1", "w0,0", "p0", "s", "m0;m0", "u0", "c0,0", "x", "r9", "d99", "l;l"};
        for (String step : steps) {
            SpoolHall x = Check.hall("t;t;f");
            Check.tell(x, step + ";p5", 1);
            int done = x.perform(0);
            check.due("perform of " + step, done, step.indexOf(';') < 0 ? 0 : 1);
            for (int what = 0; what < 4; what++) {
                check.due("status(" + what + ") behind " + step, x.status(what), 0);
            }
        }
    }

    @Edge(promise = 40, says = "its STEPS as ACTS, up to there (no STATUS)")
    static void aScriptDoesWhatItsCallsDo(Check check) {
        SpoolHall x = busy().get();
        SpoolHall twin = busy().get();
        x.end(0);
        twin.end(0);
        String text = "a0;s;w2,3;d2;u0;m3;r3;l;r2;c2,1;c0,2;p99;x";
        Check.tell(x, text, 1);
        Check.tell(twin, text, 1);
        int done = x.perform(1);
        int[] answers = {twin.ask(0), twin.serve(), twin.write(2, 3), twin.drop(2), twin.unmount(0), twin.mount(3),
            twin.scan(3), twin.lose(), twin.scan(2)};
        for (int i = 0; i < answers.length; i++) {
            check.due("step " + i + " can be", answers[i] != NONE, true);
        }
        check.due("perform(1): END of 1 is not 0", done, 9);
        Edges.alike(check, "perform(1)", x, twin);
    }

    // ---- promise 41

    @Edge(promise = 41, says = "HIDDEN: no HALL, no such what.")
    static void noSuchMost(Check check) {
        for (int what : new int[] {-1, 11, LOW, HIGH}) {
            refused(check, "most(" + what + ")", x -> x.most(what), HIDDEN);
        }
        for (int what = 0; what < 11; what++) {
            int asked = what;
            Edges.changesNothing(check, "most(" + what + ") without a hall", Edges::empty, x -> x.most(asked), HIDDEN);
        }
    }

    @Edge(promise = 41, says = "TAPES in DRIVES (2, bits)")
    static void noneOneAndThreeInDrives(Check check) {
        SpoolHall x = Check.hall("sd3;t;t;t;t;t;t;t;t");
        check.due("none", x.most(2), 0);
        x.mount(7);
        check.due("the last", x.most(2), 128);
        x.mount(0);
        x.mount(4);
        check.due("three", x.most(2), 128 + 16 + 1);
        x.mount(5);
        check.due("three still", x.most(2), 32 + 16 + 1);
    }

    @Edge(promise = 41, says = "WEAK ones (3, bits)")
    static void weakAtWornAndAbove(Check check) {
        SpoolHall x = Check.hall("sg9;tu10;tu9;tu99;t;t;t;t;tu10;f;ft1;ft7");
        check.due("above 9, with files", x.most(3), 128 + 1);
        x.mount(1);
        check.due("9 and one more", x.most(3), 128 + 2 + 1);
        x.drop(0);
        check.due("without files", x.most(3), 128 + 2);
        x.lose();
        check.due("known or not", x.most(3), 128 + 2);
    }

    @Edge(promise = 41, says = "how many FILES there are that were not DROPPED (4), how many of them are KNOWN (5), ASKED for (6)")
    static void noFilesAndAll(Check check) {
        int[] none = {0, 0, 0};
        for (int what = 4; what < 7; what++) {
            check.due("most(" + what + ") of none", Check.hall("t").most(what), none[what - 4]);
        }
        SpoolHall x = Check.hall("t" + ";f".repeat(24));
        askAll(x, 0, 12);
        int[] all = {24, 24, 12};
        for (int what = 4; what < 7; what++) {
            check.due("most(" + what + ") of 24", x.most(what), all[what - 4]);
        }
        x.drop(0);
        x.drop(23);
        int[] dropped = {22, 22, 11};
        for (int what = 4; what < 7; what++) {
            check.due("most(" + what + "), two dropped", x.most(what), dropped[what - 4]);
        }
        x.lose();
        int[] lost = {22, 0, 0};
        for (int what = 4; what < 7; what++) {
            check.due("most(" + what + "), all lost", x.most(what), lost[what - 4]);
        }
    }

    @Edge(promise = 41, says = "MENDED of all TAPES (7)")
    static void mendedOfNoneAndOfTwo(Check check) {
        SpoolHall x = Check.hall("sg1;tu5;tu5;t;fb3;ft1b4;ft2b5");
        check.due("none", x.most(7), 0);
        x.scan(2);
        check.due("wear 1 is not above 1", x.most(7), 0);
        x.scan(0);
        x.scan(1);
        check.due("two", x.most(7), 7);
    }

    @Edge(promise = 41, says = "the TAPE with most room behind END (8; of several the lowest)")
    static void mostRoom(Check check) {
        check.due("one tape", Check.hall("t").most(8), 0);
        check.due("all alike", Check.hall("t;t;t").most(8), 0);
        check.due("the last", Check.hall("t;t;t;fb2;ft1b2;ft2").most(8), 2);
        check.due("of several the lowest", Check.hall("t;t;t;fb2;ft1;ft2").most(8), 1);
        check.due("all full", Check.hall("sl4w1;t;t;fb4;ft1b4").most(8), 0);
        SpoolHall x = Check.hall("t;t;fb2;ft1");
        x.drop(0);
        check.due("dead blocks are no room behind END", x.most(8), 1);
    }

    @Edge(promise = 41, says = "the TAPE used longest ago of those in DRIVES (9; NONE: none is)")
    static void usedLongestAgo(Check check) {
        SpoolHall x = Check.hall("sd3;t;t;t;f;ft2");
        check.due("none", x.most(9), NONE);
        x.mount(2);
        check.due("one", x.most(9), 2);
        x.mount(0);
        x.mount(1);
        check.due("the first mounted", x.most(9), 2);
        x.scan(2);
        check.due("read since", x.most(9), 0);
        x.write(0, 1);
        check.due("written since", x.most(9), 1);
        x.scan(1);
        check.due("reading none is no use", x.most(9), 1);
        x.unmount(1);
        check.due("in its slot", x.most(9), 2);
    }

    @Edge(promise = 41, says = "empty TAPES (10, bits: END 0)")
    static void emptyTapes(Check check) {
        SpoolHall x = Check.hall("t;t;t;t;t;t;t;t;f");
        check.due("but the first", x.most(10), 254);
        x.drop(0);
        check.due("dead blocks are not END 0", x.most(10), 254);
        x.write(7, 1);
        check.due("nor the last", x.most(10), 126);
        x.copy(7, 1);
        check.due("copied from it", x.most(10), 252);
        check.due("all", Check.hall("t;t").most(10), 3);
        check.due("none", Check.hall("t;t;f;ft1").most(10), 0);
    }

    @Edge(promise = 41, says = "The ARM stands at a PLACE (0 at first)")
    static void theArm(Check check) {
        SpoolHall x = Check.hall("sn10d3i99;t;t;t");
        check.due("at first", x.most(1), 0);
        x.mount(1);
        x.mount(2);
        x.mount(0);
        check.due("at the last drive", x.most(1), 12);
        x.unmount(2);
        check.due("at a slot", x.most(1), 2);
        x.ask(0);
        x.pause(1);
        check.due("it stays", x.most(1), 2);
    }
}
