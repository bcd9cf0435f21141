import java.io.IOException;
import java.lang.reflect.InvocationTargetException;
import java.lang.reflect.Method;
import java.lang.reflect.Modifier;
import java.nio.file.Files;
import java.nio.file.Path;
import java.util.ArrayList;
import java.util.List;
import java.util.Set;
import java.util.TreeSet;
import java.util.function.Consumer;
import java.util.stream.Stream;

/** Tries what README.md says; it is run from the project's own directory. */
public final class ReadmeTest {
    private static final int NONE = Check.NONE;
    private static final Check check = new Check("ReadmeTest");
    private static final List<String> page = new ArrayList<>();

    public static void main(String[] args) throws IOException, InterruptedException {
        page.addAll(Files.readAllLines(Path.of("README.md")));
        hallsAsTold();
        scriptsAsTold();
        faults();
        calls();
        refusedActs();
        tests();
        commands();
        check.finish();
    }

    /** The rows of the table whose head begins so, without the signs that set code apart. */
    private static List<String[]> table(String head) {
        List<String[]> rows = new ArrayList<>();
        int at = 0;
        while (at < page.size() && !page.get(at).startsWith(head)) {
            at++;
        }
        for (int i = at + 2; i < page.size() && page.get(i).startsWith("|"); i++) {
            String[] cells = page.get(i).substring(1).split("\\|");
            for (int cell = 0; cell < cells.length; cell++) {
                cells[cell] = cells[cell].replace("`", "").trim();
            }
            rows.add(cells);
        }
        check.due("rows of the table " + head, rows.isEmpty(), false);
        return rows;
    }

    /** What stands in the blocks of a kind, one after the other. */
    private static List<String> blocks(String kind) {
        List<String> found = new ArrayList<>();
        StringBuilder block = null;
        for (String line : page) {
            if (block != null && line.equals("```")) {
                found.add(block.toString());
                block = null;
            } else if (block != null) {
                block.append(line).append('\n');
            } else if (line.equals("```" + kind)) {
                block = new StringBuilder();
            }
        }
        return found;
    }

    // ---- texts

    private static void hallsAsTold() {
        List<String[]> items = table("| clause | item |");
        check.due("how many items there are", items.size(), 12);
        for (int i = 0; i < items.size(); i++) {
            String[] item = items.get(i);
            String told = (item[0].equals("t") ? "" : "t;t;t;t;t;t;t;t;") + item[0] + item[1];
            int from = Integer.parseInt(item[3]);
            int to = Integer.parseInt(item[4]);
            for (int n = 0; n < 100; n++) {
                boolean slots = item[1].equals("n");
                String text = slots ? "t;t;t;t;" + item[0] + item[1] + n : told + n;
                int fault = Check.faultOf(text, 0);
                check.due("fault of " + text, fault, n < from || n > to ? text.length() - 1 : NONE);
            }
            check.due("the most of " + told, itemOf(Check.hall(told + to), i), to);
            check.due("without " + told, itemOf(Check.hall(told.substring(0, told.length() - 1)), i),
                Integer.parseInt(item[5]));
        }
    }

    /** An item by its row of the table. */
    private static int itemOf(SpoolHall x, int row) {
        switch (row) {
            case 8: return x.tape(0, 0);
            case 9: return x.tape(0, 4);
            case 10: return x.file(0, 0);
            case 11: return x.file(0, 2);
            default: return x.rule(row);
        }
    }

    private static void scriptsAsTold() {
        List<String[]> steps = table("| step |");
        check.due("how many steps there are", steps.size(), 11);
        for (String[] step : steps) {
            int number = Integer.parseInt(step[1]);
            SpoolHall one = forSteps(step[0], number);
            SpoolHall twin = forSteps(step[0], number);
            check.due("step(0, 0, 0) of " + step[0], one.step(0, 0, 0), number);
            check.due(step[0] + " can be done", one.perform(0), 1);
            check.due(step[2] + " can be called", callAsWritten(twin, step[2]) != NONE, true);
            check.due("sort of " + step[2], twin.log(0, 0), number);
            Edges.alike(check, step[0] + " and " + step[2], one, twin);
        }
    }

    /** A hall in which each step of the table can be done. */
    private static SpoolHall forSteps(String step, int number) {
        SpoolHall x = Check.hall("sg1d2;tu9;t;t;t;t" + ";f".repeat(13) + ";ft3b2");
        Check.tell(x, step, 1);
        x.ask(1);
        if (number == 5) {
            x.mount(3);
        }
        return x;
    }

    private static int callAsWritten(SpoolHall x, String call) {
        String name = call.substring(0, call.indexOf('('));
        String inside = call.substring(call.indexOf('(') + 1, call.indexOf(')'));
        String[] told = inside.isEmpty() ? new String[0] : inside.split(", ");
        Object[] numbers = new Object[told.length];
        for (int i = 0; i < told.length; i++) {
            numbers[i] = Integer.valueOf(told[i]);
        }
        return (Integer) answer(x, face(name), numbers);
    }

    private static void faults() {
        for (String[] row : table("| read as |")) {
            int fault = Check.faultOf(row[1], row[0].equals("hall") ? 0 : 1);
            check.due("fault of the " + row[0] + " " + row[1], fault, Integer.parseInt(row[2]));
        }
    }

    // ---- calls

    private static Method face(String name) {
        for (Method method : SpoolHall.class.getDeclaredMethods()) {
            if (Modifier.isPublic(method.getModifiers()) && method.getName().equals(name)) {
                return method;
            }
        }
        throw new IllegalStateException("README.md tells a call that is not there: " + name);
    }

    /** What a call answers, or the name of what it throws. */
    private static Object answer(SpoolHall x, Method method, Object... numbers) {
        try {
            return method.invoke(x, numbers);
        } catch (InvocationTargetException e) {
            return e.getCause().getClass().getSimpleName();
        } catch (IllegalAccessException e) {
            return "can't be called";
        }
    }

    private static Object[] allOf(Method method, int number) {
        Object[] numbers = new Object[method.getParameterCount()];
        for (int i = 0; i < numbers.length; i++) {
            boolean wide = method.getParameterTypes()[i] == long.class;
            numbers[i] = wide ? (Object) Long.valueOf(number) : Integer.valueOf(number);
        }
        return numbers;
    }

    private static int parametersIn(String call) {
        String inside = call.substring(call.indexOf('(') + 1, call.indexOf(')'));
        return inside.isEmpty() ? 0 : inside.split(",").length;
    }

    /** Without a hall and with 240 bytes read, each call with -1 for all its numbers is refused. */
    private static void calls() {
        Set<String> told = new TreeSet<>();
        for (String[] row : table("| call | what it answers |")) {
            Method method = face(row[0].substring(0, row[0].indexOf('(')));
            check.due(row[0] + " told once", told.add(method.getName()), true);
            check.due("parameters of " + row[0], parametersIn(row[0]), method.getParameterCount());
            SpoolHall x = new SpoolHall();
            Check.feed(x, "t".repeat(240));
            String due = row[2].split(":")[0].replace("NONE", "" + NONE).replace("HIDDEN", "" + Check.HIDDEN);
            String got = String.valueOf(answer(x, method, allOf(method, -1)));
            check.due(row[0] + " refused answers " + got + ", is " + due, got.equals(due), true);
        }
        for (Method method : SpoolHall.class.getDeclaredMethods()) {
            boolean open = Modifier.isPublic(method.getModifiers());
            check.due("is told: " + method.getName(), !open || told.contains(method.getName()), true);
        }
    }

    /** For each act the reasons for which it can be refused, and no others: a cell for each. */
    private static void refusedActs() {
        List<String[]> rows = table("| call | `status(0)`");
        check.due("how many acts there are", rows.size(), 11);
        for (String[] row : rows) {
            Method act = face(row[0].substring(0, row[0].indexOf('(')));
            Set<Integer> due = new TreeSet<>();
            for (int status = 0; status < 4; status++) {
                if (status + 1 < row.length && !row[status + 1].isEmpty()) {
                    due.add(status);
                }
            }
            Set<Integer> got = reasonsOf(act);
            check.due(row[0] + " is refused for " + got + ", is " + due, got.equals(due), true);
        }
    }

    private static Set<Integer> reasonsOf(Method act) {
        List<Consumer<SpoolHall>> states = List.of(
            x -> x.end(0),
            x -> Check.tell(x, "sg1;tu9;t;t;f;ft1", 0),
            x -> Check.tell(x, "sg1l4w1;tu9;t;f;ft1b4", 0),
            x -> {
                Check.tell(x, "sl16;t;t" + ";f".repeat(24), 0);
                x.mount(0);
                for (int file = 0; file < 12; file++) {
                    x.ask(file);
                }
            },
            x -> {
                Check.tell(x, "t;f;f", 0);
                x.lose();
            });
        Set<Integer> reasons = new TreeSet<>();
        for (Consumer<SpoolHall> state : states) {
            for (int first : new int[] {-1, 0, 1, 2, 23, 99, 100}) {
                for (int second : new int[] {-1, 0, 1, 9, 10}) {
                    SpoolHall x = new SpoolHall();
                    state.accept(x);
                    Object[] numbers = allOf(act, first);
                    if (numbers.length == 2) {
                        numbers[1] = second;
                    }
                    boolean refused = answer(x, act, numbers).equals(NONE);
                    int sum = 0;
                    for (int status = 0; status < 4; status++) {
                        sum += x.status(status);
                        if (x.status(status) > 0) {
                            reasons.add(status);
                        }
                    }
                    check.due(act.getName() + " is counted once if it is refused", sum, refused ? 1 : 0);
                }
            }
        }
        return reasons;
    }

    // ---- tests and commands

    private static void tests() throws IOException {
        Set<String> told = new TreeSet<>();
        for (String[] row : table("| test |")) {
            told.add(row[0] + ".java");
        }
        Set<String> there = new TreeSet<>();
        try (Stream<Path> files = Files.list(Path.of("src/test/java"))) {
            files.map(file -> file.getFileName().toString()).filter(name -> name.endsWith("Test.java"))
                .forEach(there::add);
        }
        check.due("tests told " + told + ", there are " + there, told.equals(there), true);
    }

    /** The commands are run as they stand on the page, in a copy of the project's sources. */
    private static void commands() throws IOException, InterruptedException {
        List<String> commands = blocks("sh");
        check.due("blocks of commands", commands.size(), 3);
        Path copy = Files.createTempDirectory("readme");
        copySources(copy);
        Files.writeString(copy.resolve("First.java"), blocks("java").get(0));
        check.due("what First says", output(copy, commands.get(0)).equals(blocks("text").get(0)), true);
        check.due(".ci/run is there", commands.get(1).equals(".ci/run\n") && Files.isExecutable(Path.of(".ci/run")), true);
        String one = output(copy, commands.get(2));
        check.due("one test alone says " + one, one.equals("HallTest: all answers are as due\n"), true);
        clear(copy);
    }

    private static void copySources(Path copy) throws IOException {
        List<Path> sources;
        try (Stream<Path> files = Files.walk(Path.of("src"))) {
            sources = files.filter(file -> file.toString().endsWith(".java")).toList();
        }
        for (Path source : sources) {
            Files.createDirectories(copy.resolve(source).getParent());
            Files.copy(source, copy.resolve(source));
        }
    }

    private static String output(Path at, String command) throws IOException, InterruptedException {
        Process process = new ProcessBuilder("sh", "-ec", command).directory(at.toFile())
            .redirectError(ProcessBuilder.Redirect.INHERIT).start();
        String told = new String(process.getInputStream().readAllBytes());
        check.due("exit code of " + command + told, process.waitFor(), 0);
        return told;
    }

    private static void clear(Path directory) throws IOException {
        List<Path> all;
        try (Stream<Path> files = Files.walk(directory)) {
            all = new ArrayList<>(files.toList());
        }
        for (int i = all.size() - 1; i >= 0; i--) {
            Files.delete(all.get(i));
        }
    }
}
