import java.util.function.Supplier;
import java.util.function.ToIntFunction;

/** One test for each sentence of promises 25 to 28 and 42 to 44, and of "Terms" behind them, that names a boundary. */
public final class PastEdgesTest {
    private static final int NONE = Check.NONE;
    private static final int HIDDEN = Check.HIDDEN;
    private static final int LOW = Integer.MIN_VALUE;
    private static final int HIGH = Integer.MAX_VALUE;

    public static void main(String[] args) {
        Edges.runAll(PastEdgesTest.class);
    }

    private static Supplier<SpoolHall> busy() {
        return Edges.busy(x -> { });
    }

    private static void refused(Check check, String call, ToIntFunction<SpoolHall> asked, int answer) {
        Edges.changesNothing(check, call, busy(), asked, answer);
        Edges.changesNothing(check, call + " without a hall", Edges::empty, asked, answer);
    }

    private static SpoolHall withPauses(int n) {
        SpoolHall x = Check.hall("t;f");
        for (int i = 1; i <= n; i++) {
            x.pause(i % 99 + 1);
        }
        return x;
    }

    /** A seed whose draws begin as told, found by trying. */
    private static long seedFor(int... draws) {
        for (long seed = 0; seed < 5000000; seed++) {
            long x = seed;
            boolean fits = true;
            for (int i = 0; i < draws.length && fits; i += 2) {
                x = x * 6364136223846793005L + 1442695040888963407L;
                fits = (x >>> 33) % draws[i] == draws[i + 1];
            }
            if (fits) {
                return seed;
            }
        }
        throw new IllegalStateException("no seed draws so");
    }

    // ---- promise 25

    @Edge(promise = 25, says = "NONE: no HALL, out of bounds.")
    static void yearsOutOfBounds(Check check) {
        for (int n : new int[] {0, 41, -1, LOW, HIGH}) {
            refused(check, "years(" + n + ", 1)", x -> x.years(n, 1), NONE);
        }
        for (int n : new int[] {1, 40}) {
            Edges.changesNothing(check, "years(" + n + ", 1) without a hall", Edges::empty, x -> x.years(n, 1), NONE);
        }
    }

    @Edge(promise = 25, says = "n (1 .. 40) times")
    static void oneYearAnd40(Check check) {
        SpoolHall x = Check.hall("t" + ";f".repeat(24));
        check.due("one year: asked for", x.years(1, seedFor(8, 0, 24, 5)), 0);
        check.due("one act", x.count(4), 1);
        check.due("file 5", x.file(5, 4), 1);
        for (long seed = 0; seed < 20; seed++) {
            SpoolHall many = busy().get();
            SpoolHall twin = busy().get();
            many.years(40, seed);
            byHand(twin, 40, seed);
            Edges.alike(check, "years(40, " + seed + ")", many, twin);
        }
    }

    /** Years by the calls of the face, with the draws made here. */
    private static void byHand(SpoolHall x, int n, long seed) {
        long[] chance = {seed};
        int tapes = x.count(0);
        for (int i = 0; i < n; i++) {
            int sort = draw(chance, 8);
            if (sort < 3) {
                x.ask(draw(chance, 24));
            } else if (sort < 5) {
                x.serve();
            } else if (sort == 5) {
                int tape = draw(chance, tapes);
                x.write(tape, draw(chance, 9) + 1);
            } else if (sort == 6) {
                x.drop(draw(chance, 24));
            } else {
                int tape = draw(chance, tapes);
                x.copy(tape, x.target(tape));
            }
        }
    }

    private static int draw(long[] chance, int bound) {
        chance[0] = chance[0] * 6364136223846793005L + 1442695040888963407L;
        return (int) ((chance[0] >>> 33) % bound);
    }

    @Edge(promise = 25, says = "a draw of 8: 0 to 2: a draw of 24: that FILE is ASKED for; 3, 4: SERVED")
    static void eachDrawOfEight(Check check) {
        int[] sorts = {0, 0, 0, 1, 1, 2, 3, 6};
        for (int drawn = 0; drawn < 8; drawn++) {
            SpoolHall x = Check.hall("sl16;t;t" + ";f".repeat(23));
            x.ask(7);
            int next = drawn == 5 || drawn == 7 ? 2 : 24;
            int fits = drawn == 5 || drawn == 7 ? 0 : 22;
            x.years(1, drawn == 3 || drawn == 4 ? seedFor(8, drawn) : seedFor(8, drawn, next, fits));
            check.due("acts behind a draw of " + drawn, x.count(4), 2);
            check.due("sort behind a draw of " + drawn, x.log(0, 0), sorts[drawn]);
        }
    }

    @Edge(promise = 25, says = "a draw of TAPES, of 9 and 1: so many BLOCKS are WRITTEN")
    static void oneAndNineBlocksAreWritten(Check check) {
        for (int blocks : new int[] {1, 9}) {
            for (int tape : new int[] {0, 2}) {
                SpoolHall x = Check.hall("t;t;t");
                x.years(1, seedFor(8, 5, 3, tape, 9, blocks - 1));
                check.due("file(0, 0)", x.file(0, 0), tape);
                check.due("file(0, 2)", x.file(0, 2), blocks);
            }
        }
    }

    @Edge(promise = 25, says = "a draw of 24: DROPPED")
    static void theFirstAndTheLastAreDropped(Check check) {
        for (int file : new int[] {0, 23}) {
            SpoolHall x = Check.hall("t" + ";f".repeat(24));
            x.years(1, seedFor(8, 6, 24, file));
            check.due("file(" + file + ", 0)", x.file(file, 0), NONE);
            check.due("the others stay", x.most(4), 23);
        }
    }

    @Edge(promise = 25, says = "a draw of TAPES: COPIED to its TARGET (none: nothing)")
    static void copiedOrNothing(Check check) {
        SpoolHall x = Check.hall("t;tu9;tu3;f");
        x.years(1, seedFor(8, 7, 3, 0));
        check.due("to its target", x.file(0, 0), 2);
        for (String text : new String[] {"t;t;t;f;ft1;ft2", "t;t;t"}) {
            Edges.changesNothing(check, "a draw of 7 without a target in " + text, () -> Check.hall(text),
                y -> y.years(1, seedFor(8, 7, 3, 0)), 0);
        }
    }

    @Edge(promise = 25, says = "what can't be is left (no STATUS)")
    static void whatCanNotBe(Check check) {
        for (int drawn = 0; drawn < 8; drawn++) {
            long seed = drawn == 5 ? seedFor(8, 5, 1, 0, 9, 8) : seedFor(8, drawn);
            Edges.changesNothing(check, "a draw of " + drawn + " that can't be", () -> {
                SpoolHall x = Check.hall("sl4w1;t;fb4");
                x.drop(0);
                return x;
            }, x -> x.years(1, seed), 0);
        }
        SpoolHall x = Check.hall("t");
        x.years(40, 3);
        for (int what = 0; what < 4; what++) {
            check.due("status(" + what + ")", x.status(what), 0);
        }
    }

    @Edge(promise = 25, says = "(64 bits, going round)")
    static void theLeastAndTheGreatestSeed(Check check) {
        for (long seed : new long[] {Long.MIN_VALUE, Long.MAX_VALUE, -1, 0, 1, 1L << 33, -(1L << 33)}) {
            SpoolHall x = busy().get();
            SpoolHall twin = busy().get();
            x.years(40, seed);
            byHand(twin, 40, seed);
            Edges.alike(check, "years(40, " + seed + ")", x, twin);
        }
    }

    @Edge(promise = 25, says = "x, at first the seed")
    static void eachCallBeginsWithItsSeed(Check check) {
        SpoolHall x = Check.hall("t" + ";f".repeat(24));
        long seed = seedFor(8, 1, 24, 4);
        x.years(1, seed);
        x.drop(4);
        x.undo();
        x.undo();
        x.years(1, seed);
        check.due("the same file again", x.file(4, 4), 1);
        check.due("one act", x.count(4), 1);
    }

    // ---- promise 26

    @Edge(promise = 26, says = "NONE: no such what.")
    static void noSuchStatus(Check check) {
        for (int what : new int[] {-1, 4, LOW, HIGH}) {
            refused(check, "status(" + what + ")", x -> x.status(what), NONE);
        }
        check.due("status(0) without a hall", new SpoolHall().status(0), 0);
        check.due("status(3) without a hall", new SpoolHall().status(3), 0);
    }

    @Edge(promise = 26, says = "STATUS: how many ACTS were refused")
    static void eachReasonCountsOnItsOwn(Check check) {
        SpoolHall x = Check.hall("sl4w1;t;fb4");
        for (int i = 0; i < 3; i++) {
            x.drop(9);
        }
        x.pause(0);
        x.serve();
        x.serve();
        for (int i = 0; i < 4; i++) {
            x.write(0, 1);
        }
        int[] due = {3, 1, 2, 4};
        for (int what = 0; what < 4; what++) {
            check.due("status(" + what + ")", x.status(what), due[what]);
        }
        check.due("none of them is an act", x.count(3), 0);
        check.due("nothing to undo", x.undo(), NONE);
    }

    @Edge(promise = 26, says = "no HALL (0)")
    static void everyActWithoutAHall(Check check) {
        SpoolHall x = new SpoolHall();
        int answers = x.ask(0) + x.serve() + x.write(0, 0) + x.drop(0) + x.mount(0) + x.unmount(0) + x.copy(0, 0)
            + x.lose() + x.scan(0) + x.pause(0) + x.rescue();
        check.due("eleven are refused", answers, 11 * NONE);
        int[] due = {11, 0, 0, 0};
        for (int what = 0; what < 4; what++) {
            check.due("status(" + what + ")", x.status(what), due[what]);
        }
    }

    @Edge(promise = 26, says = "of several the first")
    static void ofSeveralReasonsTheFirst(Check check) {
        SpoolHall x = Check.hall("sl4w1;t" + ";f".repeat(4));
        x.write(1, 0);
        x.write(0, 10);
        x.copy(1, 1);
        int[] due = {2, 1, 0, 0};
        for (int what = 0; what < 4; what++) {
            check.due("status(" + what + ")", x.status(what), due[what]);
        }
    }

    @Edge(promise = 26, says = "not UNDONE")
    static void neitherUndoneNorInAnImageNorGoneWithAHall(Check check) {
        SpoolHall x = Check.hall("t");
        x.image();
        x.pause(1);
        x.pause(0);
        x.undo();
        check.due("behind undo()", x.status(1), 1);
        x.back();
        check.due("behind back()", x.status(1), 1);
        Check.tell(x, "t", 0);
        check.due("behind another hall", x.status(1), 1);
        x.pause(100);
        check.due("one more", x.status(1), 2);
    }

    @Edge(promise = 26, says = "STATUS: how many ACTS were refused")
    static void callsThatAreNoActsCountNothing(Check check) {
        SpoolHall x = Check.hall("t");
        x.undo();
        x.back();
        x.years(0, 0);
        x.perform(0);
        x.idle(0);
        x.cheap(0);
        x.target(9);
        x.shares(9, 9);
        x.text(0);
        x.end(5);
        for (int what = 0; what < 4; what++) {
            check.due("status(" + what + ")", x.status(what), 0);
        }
    }

    // ---- promise 27

    @Edge(promise = 27, says = "NONE: none.")
    static void nothingToUndo(Check check) {
        Edges.changesNothing(check, "undo() without a hall", Edges::empty, x -> x.undo(), NONE);
        Edges.changesNothing(check, "undo() in a new hall", () -> Check.hall("t;f"), x -> x.undo(), NONE);
        Edges.changesNothing(check, "undo() behind refused acts", () -> {
            SpoolHall x = Check.hall("t;f");
            x.pause(0);
            x.mount(5);
            return x;
        }, x -> x.undo(), NONE);
        Edges.changesNothing(check, "undo() behind back()", Edges.busy(x -> x.back()), x -> x.undo(), NONE);
        Edges.changesNothing(check, "undo() of one too many", Edges.busy(x -> {
            while (x.count(4) > 0) {
                x.undo();
            }
        }), x -> x.undo(), NONE);
    }

    @Edge(promise = 27, says = "the latest 40 can be UNDONE one by one")
    static void fortyAnd41Acts(Check check) {
        for (int acts : new int[] {1, 39, 40, 41, 60, 61, 81, 100, 121}) {
            SpoolHall x = withPauses(acts);
            int can = Math.min(acts, 40);
            check.due("count(4) behind " + acts, x.count(4), can);
            for (int left = can - 1; left >= 0; left--) {
                check.due("undo()", x.undo(), left);
            }
            check.due("one more", x.undo(), NONE);
            check.due("time", x.most(0), withPauses(acts - can).most(0));
            check.due("log", x.count(3), Math.min(acts - can, 60));
        }
    }

    @Edge(promise = 27, says = "how many still can be")
    static void undoneAndDoneAnew(Check check) {
        SpoolHall x = withPauses(45);
        for (int i = 0; i < 5; i++) {
            x.undo();
        }
        check.due("35 are left", x.count(4), 35);
        for (int i = 1; i <= 7; i++) {
            x.pause(90);
            check.due("behind " + i + " new ones", x.count(4), Math.min(40, 35 + i));
        }
        check.due("undo() of the last new one", x.undo(), 39);
        for (int i = 0; i < 6; i++) {
            x.undo();
        }
        check.due("33 of the old ones", x.count(4), 33);
        check.due("time", x.most(0), withPauses(40).most(0));
    }

    @Edge(promise = 27, says = "The latest ACT is UNDONE")
    static void eachSortOfActIsUndone(Check check) {
        java.util.List<ToIntFunction<SpoolHall>> acts = java.util.List.of(x -> x.ask(0), x -> x.serve(),
            x -> x.write(2, 3), x -> x.drop(2), x -> x.mount(2), x -> x.unmount(0), x -> x.copy(1, 2), x -> x.lose(),
            x -> x.scan(3), x -> x.pause(99), x -> x.rescue());
        for (int i = 0; i < acts.size(); i++) {
            SpoolHall x = busy().get();
            SpoolHall twin = busy().get();
            int can = x.count(4);
            check.due("act " + i + " is done", acts.get(i).applyAsInt(x) != NONE, true);
            check.due("its sort", x.log(0, 0), i);
            check.due("undo() of act " + i, x.undo(), can);
            Edges.alike(check, "act " + i + " undone", x, twin);
        }
    }

    @Edge(promise = 27, says = "(the LOG, too)")
    static void theLogIsUndoneToo(Check check) {
        SpoolHall x = withPauses(101);
        for (int i = 0; i < 40; i++) {
            check.due("the latest", x.log(0, 1), (101 - i) % 99 + 1);
            check.due("the 60th", x.log(59, 1), (101 - i - 59) % 99 + 1);
            x.undo();
        }
        check.due("61 were done, 60 are told", x.count(3), 60);
        check.due("the 60th", x.log(59, 1), 2 % 99 + 1);
        check.due("a 61st", x.log(60, 1), HIDDEN);
    }

    // ---- promise 28

    @Edge(promise = 28, says = "HIDDEN: no such ones.")
    static void noSuchLog(Check check) {
        int[][] none = {{-1, 0}, {7, 0}, {60, 0}, {LOW, 0}, {HIGH, 0}, {0, -1}, {0, 3}, {0, LOW}, {0, HIGH}};
        for (int[] at : none) {
            refused(check, "log(" + at[0] + ", " + at[1] + ")", x -> x.log(at[0], at[1]), HIDDEN);
        }
        Edges.changesNothing(check, "log(0, 0) of a new hall", () -> Check.hall("t"), x -> x.log(0, 0), HIDDEN);
        Edges.changesNothing(check, "log(0, 0) without a hall", Edges::empty, x -> x.log(0, 0), HIDDEN);
        check.due("the first act", busy().get().log(6, 1), 5);
    }

    @Edge(promise = 28, says = "the latest 60")
    static void sixtyAnd61Acts(Check check) {
        for (int acts : new int[] {1, 59, 60, 61, 99, 100, 101, 120, 199, 201}) {
            SpoolHall x = withPauses(acts);
            int told = Math.min(acts, 60);
            check.due("count(3) behind " + acts, x.count(3), told);
            for (int i = 0; i < told; i++) {
                check.due("log(" + i + ", 1) behind " + acts, x.log(i, 1), (acts - i) % 99 + 1);
            }
            check.due("log(" + told + ", 1)", x.log(told, 1), HIDDEN);
        }
    }

    @Edge(promise = 28, says = "COPIED: the one; PAUSE: n; RESCUE: how many; others: the TAPE")
    static void theNumberOfEachSort(Check check) {
        SpoolHall x = Check.hall("sg4d2;t;tu5;t;t;f;ft1b2;f");
        x.ask(2);
        x.serve();
        x.write(3, 2);
        x.drop(3);
        x.mount(2);
        x.unmount(2);
        x.copy(0, 2);
        x.scan(1);
        x.pause(99);
        x.rescue();
        x.lose();
        int[] sorts = {0, 1, 2, 3, 4, 5, 6, 8, 9, 10, 7};
        int[] numbers = {2, 0, 3, 3, 2, 2, 0, 1, 99, 1, NONE};
        for (int i = 0; i < 11; i++) {
            check.due("sort of act " + i, x.log(10 - i, 0), sorts[i]);
            check.due("number of act " + i, x.log(10 - i, 1), numbers[i]);
        }
    }

    @Edge(promise = 28, says = "how much TIME it took")
    static void noTimeAndMuch(Check check) {
        SpoolHall x = Check.hall("t;t;f;f");
        x.ask(0);
        check.due("asked for", x.log(0, 2), 0);
        x.drop(1);
        check.due("dropped", x.log(0, 2), 0);
        x.lose();
        check.due("lost", x.log(0, 2), 0);
        x.scan(0);
        check.due("read through", x.log(0, 2), x.most(0));
        int from = x.most(0);
        x.mount(1);
        check.due("with another one unmounted ahead of it", x.log(0, 2), x.most(0) - from);
    }

    // ---- promise 42

    @Edge(promise = 42, says = "NONE: no HALL.")
    static void noImageWithoutAHall(Check check) {
        Edges.changesNothing(check, "image() without a hall", Edges::empty, x -> x.image(), NONE);
        SpoolHall x = Edges.empty();
        x.image();
        check.due("there is none then", x.back(), NONE);
    }

    @Edge(promise = 42, says = "An IMAGE (instead of the one ahead): TIME.")
    static void anImageInsteadOfAnother(Check check) {
        SpoolHall x = Check.hall("t;f");
        check.due("at time 0", x.image(), 0);
        x.pause(5);
        check.due("at time 5", x.image(), 5);
        x.pause(6);
        check.due("back to the latter", x.back(), 5);
        check.due("and again", x.back(), 5);
    }

    @Edge(promise = 42, says = "An IMAGE keeps all that ACTS change")
    static void anImageIsNoAct(Check check) {
        SpoolHall x = busy().get();
        SpoolHall twin = busy().get();
        int time = x.most(0);
        check.due("image()", x.image(), time);
        twin.image();
        Edges.alike(check, "image()", x, twin);
        SpoolHall y = busy().get();
        int acts = y.count(4);
        y.image();
        check.due("no act", y.count(4), acts);
        check.due("undo() behind it", y.undo(), acts - 1);
    }

    // ---- promise 43

    @Edge(promise = 43, says = "NONE: no IMAGE of this HALL.")
    static void noImageToGoBackTo(Check check) {
        Edges.changesNothing(check, "back() without a hall", Edges::empty, x -> x.back(), NONE);
        Edges.changesNothing(check, "back() without an image", Edges.made("t;f", x -> x.pause(3)), x -> x.back(), NONE);
        Edges.changesNothing(check, "back() to another hall", Edges.busy(x -> {
            x.end(0);
            Check.tell(x, "t;t;f", 0);
            x.pause(4);
        }), x -> x.back(), NONE);
    }

    @Edge(promise = 43, says = "BACK: it is so again (no ACT can be UNDONE then)")
    static void allIsSoAgainButNothingCanBeUndone(Check check) {
        Supplier<SpoolHall> imaged = Edges.busy(x -> x.image());
        SpoolHall x = imaged.get();
        SpoolHall twin = imaged.get();
        x.serve();
        x.copy(0, 2);
        x.drop(0);
        x.lose();
        x.rescue();
        x.pause(99);
        x.write(0, 1);
        int time = twin.most(0);
        check.due("back()", x.back(), time);
        check.due("undo()", x.undo(), NONE);
        check.due("count(4)", x.count(4), 0);
        twin.back();
        Edges.alike(check, "back()", x, twin);
    }

    @Edge(promise = 43, says = "BACK: it is so again (no ACT can be UNDONE then)")
    static void theLogAndTurnsAreSoAgain(Check check) {
        SpoolHall x = withPauses(61);
        x.ask(0);
        x.image();
        for (int i = 0; i < 40; i++) {
            x.undo();
        }
        for (int i = 0; i < 70; i++) {
            x.pause(98);
        }
        x.back();
        check.due("log", x.count(3), 60);
        check.due("the latest", x.log(0, 0), 0);
        check.due("the one ahead of it", x.log(1, 1), 61 + 1);
        check.due("the 60th", x.log(59, 1), 3 + 1);
        check.due("undo()", x.undo(), NONE);
        x.lose();
        x.scan(0);
        check.due("the next turn", x.ask(0), 2);
        check.due("three acts can be undone", x.count(4), 3);
        for (int i = 0; i < 3; i++) {
            x.undo();
        }
        check.due("the 60th again", x.log(59, 1), 3 + 1);
    }

    // ---- promise 44

    @Edge(promise = 44, says = "HIDDEN for others.")
    static void noSuchCount(Check check) {
        for (int what : new int[] {-1, 6, LOW, HIGH}) {
            refused(check, "count(" + what + ")", x -> x.count(what), HIDDEN);
        }
    }

    @Edge(promise = 44, says = "0 TAPES, 1 SCRIPTS, 2 bytes that are read")
    static void theMostOfEachThatIsTold(Check check) {
        SpoolHall x = Check.hall("t;t;t;t;t;t;t;t" + ";f".repeat(24));
        for (int i = 0; i < 4; i++) {
            Check.tell(x, "s", 1);
        }
        Check.feed(x, " ".repeat(240));
        int[] due = {8, 4, 240, 0, 0, 24};
        for (int what = 0; what < 6; what++) {
            check.due("count(" + what + ")", x.count(what), due[what]);
        }
    }

    @Edge(promise = 44, says = "3 how long the LOG is, 4 ACTS that can be UNDONE")
    static void theMostOfTheLogAndOfUndoing(Check check) {
        int[] acts = {0, 1, 40, 41, 60, 61};
        for (int n : acts) {
            SpoolHall x = withPauses(n);
            check.due("count(3) behind " + n, x.count(3), Math.min(n, 60));
            check.due("count(4) behind " + n, x.count(4), Math.min(n, 40));
        }
    }

    @Edge(promise = 44, says = "5 FILES (DROPPED ones, too)")
    static void droppedOnesAreCounted(Check check) {
        SpoolHall x = Check.hall("t;f;f");
        x.drop(0);
        x.drop(1);
        check.due("count(5)", x.count(5), 2);
        x.write(0, 1);
        check.due("a new one", x.count(5), 3);
        x.undo();
        check.due("undone", x.count(5), 2);
        check.due("none", Check.hall("t").count(5), 0);
    }

    @Edge(promise = 44, says = "TIME never ends.")
    static void the512thCall(Check check) {
        SpoolHall x = Check.hall("t");
        for (int i = 0; i < 506; i++) {
            x.pause(99);
        }
        check.due("time", x.most(0), 506 * 99);
        check.due("the 512th call or one ahead of it", x.count(3), 60);
    }
}
