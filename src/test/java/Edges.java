import java.lang.reflect.InvocationTargetException;
import java.lang.reflect.Method;
import java.util.ArrayList;
import java.util.Comparator;
import java.util.List;
import java.util.function.Consumer;
import java.util.function.Supplier;
import java.util.function.ToIntFunction;

/** Runs the tests of sentences that a class holds, and tells what a refused call must leave as it was. */
final class Edges {
    private static final int NONE = Check.NONE;
    private static final int HIDDEN = Check.HIDDEN;

    private Edges() {
    }

    /** Runs every method of a class that is marked as an edge, by promise, then by name. */
    static void runAll(Class<?> tests) {
        Check check = new Check(tests.getSimpleName());
        List<Method> methods = new ArrayList<>();
        for (Method method : tests.getDeclaredMethods()) {
            if (method.isAnnotationPresent(Edge.class)) {
                methods.add(method);
            }
        }
        methods.sort(Comparator.comparingInt((Method m) -> m.getAnnotation(Edge.class).promise())
            .thenComparing(Method::getName));
        for (Method method : methods) {
            Edge edge = method.getAnnotation(Edge.class);
            check.under("promise " + edge.promise() + " \"" + edge.says() + "\" (" + method.getName() + ")");
            try {
                method.invoke(null, check);
            } catch (InvocationTargetException e) {
                check.due("threw " + e.getCause(), false, true);
            } catch (IllegalAccessException e) {
                check.due("can't be run", false, true);
            }
        }
        check.under("");
        check.due("there are tests of sentences", methods.isEmpty(), false);
        check.finish();
    }

    /** An act that is refused: of all that can be asked for, only that status is one more. */
    static void refusedAct(Check check, String call, Supplier<SpoolHall> made, ToIntFunction<SpoolHall> act, int status) {
        leavesAll(check, call, made, act, NONE, status);
    }

    /** A call that answers as told and changes nothing, not even a status. */
    static void changesNothing(Check check, String call, Supplier<SpoolHall> made, ToIntFunction<SpoolHall> asked,
            int answer) {
        leavesAll(check, call, made, asked, answer, NONE);
    }

    /** The call is made on one of two halls that were made alike, as one object has not calls enough for both. */
    private static void leavesAll(Check check, String call, Supplier<SpoolHall> made, ToIntFunction<SpoolHall> called,
            int answer, int status) {
        SpoolHall one = made.get();
        SpoolHall twin = made.get();
        check.due(call, called.applyAsInt(one), answer);
        for (int what = 0; what < 4; what++) {
            int more = what == status ? 1 : 0;
            check.due(call + ", then status(" + what + ")", one.status(what), twin.status(what) + more);
        }
        alike(check, call, one, twin);
    }

    /** Whether two halls answer alike, whatever they are asked but for status; both are spent by it. */
    static void alike(Check check, String call, SpoolHall one, SpoolHall twin) {
        List<String> names = new ArrayList<>();
        List<Integer> got = all(one, names);
        names.clear();
        List<Integer> due = all(twin, names);
        check.due(call + ", then how much there is to ask", got.size(), due.size());
        for (int i = 0; i < Math.min(got.size(), due.size()); i++) {
            check.due(call + ", then " + names.get(i), got.get(i), due.get(i));
        }
    }

    private static List<Integer> all(SpoolHall x, List<String> names) {
        List<Integer> told = new ArrayList<>();
        note(told, names, "fault(0)", x.fault(0));
        note(told, names, "fault(1)", x.fault(1));
        int scripts = x.count(1);
        for (int script = 0; script < scripts; script++) {
            for (int i = 0; x.step(script, i, 0) != HIDDEN; i++) {
                for (int what = 0; what < 3; what++) {
                    note(told, names, "step(" + script + ", " + i + ", " + what + ")", x.step(script, i, what));
                }
            }
        }
        for (int what = 0; what < 9; what++) {
            note(told, names, "rule(" + what + ")", x.rule(what));
        }
        stage(x, told, names);
        nextTurn(x, told, names);
        for (int i = 0; i < 41 && x.undo() != NONE; i++) {
            String behind = " behind undo " + i;
            note(told, names, "most(0)" + behind, x.most(0));
            note(told, names, "log(0, 1)" + behind, x.log(0, 1));
        }
        note(told, names, "back()", x.back());
        note(told, names, "most(1) behind back()", x.most(1));
        note(told, names, "count(3) behind back()", x.count(3));
        return told;
    }

    private static void stage(SpoolHall x, List<Integer> told, List<String> names) {
        for (int what = 0; what < 6; what++) {
            note(told, names, "count(" + what + ")", x.count(what));
        }
        for (int what = 0; what < 11; what++) {
            note(told, names, "most(" + what + ")", x.most(what));
        }
        for (int drive = 0; drive < 3; drive++) {
            note(told, names, "drive(" + drive + ")", x.drive(drive));
        }
        int tapes = x.count(0);
        for (int tape = 0; tape < tapes; tape++) {
            for (int what = 0; what < 11; what++) {
                note(told, names, "tape(" + tape + ", " + what + ")", x.tape(tape, what));
            }
        }
        int files = x.count(5);
        for (int file = 0; file < files; file++) {
            for (int what = 0; what < 5; what++) {
                note(told, names, "file(" + file + ", " + what + ")", x.file(file, what));
            }
        }
        int acts = Math.min(x.count(3), 12);
        for (int i = 0; i < acts; i++) {
            for (int what = 0; what < 3; what++) {
                note(told, names, "log(" + i + ", " + what + ")", x.log(i, what));
            }
        }
    }

    /** Turns are seen by asking alone; a file goes ahead of that, as twelve may be asked for. */
    private static void nextTurn(SpoolHall x, List<Integer> told, List<String> names) {
        int files = x.count(5);
        note(told, names, "drop(0)", x.drop(0));
        for (int file = 1; file < files; file++) {
            int turn = x.ask(file);
            if (turn != NONE) {
                note(told, names, "ask(" + file + ")", turn);
                return;
            }
        }
    }

    private static void note(List<Integer> told, List<String> names, String name, int answer) {
        told.add(answer);
        names.add(name);
    }

    /** A hall made of its text and what was done to it. */
    static Supplier<SpoolHall> made(String text, Consumer<SpoolHall> done) {
        return () -> {
            SpoolHall x = Check.hall(text);
            done.accept(x);
            return x;
        };
    }

    /** A hall in the midst of its work: drives taken, blocks mended, files asked for, an image, a script, bytes read. */
    static Supplier<SpoolHall> busy(Consumer<SpoolHall> done) {
        return made("sn5d2l4w3m2a1g3i20;tk1;tu4;t;tu9;fb3;fb2;ft1b4;ft1;ft3b9", x -> {
            Check.tell(x, "a0;s", 1);
            x.pause(5);
            x.scan(1);
            x.image();
            x.ask(1);
            x.drop(3);
            x.scan(0);
            x.ask(2);
            x.serve();
            Check.feed(x, "t;s n4");
            done.accept(x);
        });
    }

    /** An object without a hall, but with a script and bytes that are read. */
    static SpoolHall empty() {
        SpoolHall x = new SpoolHall();
        Check.tell(x, "p3;x", 1);
        Check.feed(x, "t;t");
        return x;
    }
}
