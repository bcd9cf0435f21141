import java.io.IOException;
import java.lang.reflect.Method;
import java.nio.file.Files;
import java.nio.file.Path;
import java.util.ArrayList;
import java.util.List;
import java.util.stream.Stream;

/** Whether every sentence of "Terms" and of the promises has a test that quotes it; run from the project's directory. */
public final class QuotesTest {
    private static final Path DOCUMENT = Path.of("../shared/DOC.md");
    /** What is left between two quotes and has no more letters than this only joins them. */
    private static final int FEW = 20;
    private static final Check check = new Check("QuotesTest");

    public static void main(String[] args) throws IOException, ClassNotFoundException {
        String document = Files.exists(DOCUMENT) ? sentences(Files.readString(DOCUMENT)) : "";
        boolean[] quoted = new boolean[document.length()];
        for (Edge edge : edges()) {
            String says = edge.says();
            int at = document.indexOf(says);
            check.due("the document says \"" + says + "\"", document.isEmpty() || at >= 0, true);
            while (at >= 0) {
                java.util.Arrays.fill(quoted, at, at + says.length(), true);
                at = document.indexOf(says, at + 1);
            }
        }
        tellUnquoted(document, quoted);
        check.finish();
    }

    /** The document's own words from "Terms" to the last promise: no headings, no signatures, no marks of parts. */
    private static String sentences(String document) {
        int from = document.indexOf("## Terms");
        int to = document.indexOf("## Not promised");
        check.due("the document has its terms and promises", from >= 0 && to > from, true);
        return document.substring(Math.max(from, 0), Math.max(to, Math.max(from, 0)))
            .replaceAll("(?m)^## .*$", "")
            .replaceAll("(?m)^`[^`]*\\(.*\\)[^`]*`: ", "")
            .replaceAll("(?m)^```(text)?$", "")
            .replaceAll("(?m)^==== \\d\\. ", "")
            .replaceAll("\\s+", " ");
    }

    private static List<Edge> edges() throws IOException, ClassNotFoundException {
        List<String> names = new ArrayList<>();
        try (Stream<Path> files = Files.list(Path.of("src/test/java"))) {
            files.map(file -> file.getFileName().toString()).filter(name -> name.endsWith("Test.java")).sorted()
                .forEach(name -> names.add(name.substring(0, name.length() - 5)));
        }
        List<Edge> found = new ArrayList<>();
        for (String name : names) {
            for (Method method : Class.forName(name).getDeclaredMethods()) {
                if (method.isAnnotationPresent(Edge.class)) {
                    found.add(method.getAnnotation(Edge.class));
                }
            }
        }
        check.due("there are tests that quote", found.isEmpty(), false);
        return found;
    }

    private static void tellUnquoted(String document, boolean[] quoted) {
        int from = 0;
        for (int i = 0; i <= quoted.length; i++) {
            if (i == quoted.length || quoted[i]) {
                String left = document.substring(from, i);
                long letters = left.chars().filter(Character::isLetterOrDigit).count();
                check.due("no test quotes \"" + left + "\"", letters > FEW, false);
                from = i + 1;
            }
        }
    }
}
