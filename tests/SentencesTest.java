import java.io.IOException;
import java.lang.reflect.Method;
import java.nio.file.Files;
import java.nio.file.Path;
import java.util.ArrayList;
import java.util.List;
import java.util.Map;
import java.util.Set;
import java.util.TreeMap;
import java.util.TreeSet;
import java.util.stream.Stream;

/** SENTENCES.txt leaves no word of the document out, has a test of its own for each sentence, and all tests that there are. */
public final class SentencesTest {
    private static final Check c = new Check();
    /** By test how many sentences tell it, and by sentence its tests. */
    private static final Map<String, Integer> told = new TreeMap<>();
    private static final Map<String, List<String>> testsOf = new TreeMap<>();
    private static final Set<String> sections = new TreeSet<>();

    public static void main(String[] args) throws IOException {
        Path shared = Path.of("../shared/DOC.md");
        // Without the document the tests that are told can still be looked at.
        String document = Files.exists(shared) ? Files.readString(shared) : null;
        List<String> lines = Files.readAllLines(Path.of("tests/SENTENCES.txt"));
        int from = next(lines, 0);
        while (from < lines.size()) {
            int to = next(lines, from + 1);
            section(lines.get(from).substring(3), lines.subList(from + 1, to), document);
            from = to;
        }
        for (int n = 1; n <= 33; n++) {
            there("section of promise " + n, sections.contains("Promise " + n));
        }
        there("section of Terms", sections.contains("Terms"));
        c.due("the tests that are told", told.keySet().toString(), tests().toString());
        testsOf.forEach((sentence, tests) -> there("a test of its own of " + sentence,
            tests.stream().anyMatch(t -> told.get(t) == 1)));
        c.end("SentencesTest");
    }

    private static void there(String what, boolean so) {
        c.due(what, so ? "there" : "not there", "there");
    }

    private static int next(List<String> lines, int from) {
        int at = from;
        while (at < lines.size() && !lines.get(at).startsWith("== ")) {
            at++;
        }
        return at;
    }

    /** Between the sentences that are told nothing of the document may stand but signs that part them. */
    private static void section(String name, List<String> lines, String document) {
        sections.add(name);
        String text = document == null ? String.join(" ", lines) : part(name, document);
        int at = 0;
        List<String> tests = new ArrayList<>();
        for (String line : lines) {
            if (line.startsWith("\"")) {
                String sentence = line.substring(1, line.length() - 1);
                int found = text.indexOf(sentence, at);
                there(name + ", " + line, found >= 0);
                if (found >= 0) {
                    leftOut(name, document == null ? "" : text.substring(at, found));
                    at = found + sentence.length();
                }
                tests = new ArrayList<>();
                testsOf.put(name + " " + at + ", " + line, tests);
            } else if (line.startsWith("  ") && !line.startsWith("  - ")) {
                tests.add(line.trim());
                told.merge(line.trim(), 1, Integer::sum);
            }
        }
        leftOut(name, document == null ? "" : text.substring(at));
    }

    private static void leftOut(String name, String between) {
        c.due("left out of " + name, between.replaceAll("[\\s.,;:()]", "").replace("and", ""), "");
    }

    /** The document's words between that heading and the next, without what only marks them. */
    private static String part(String name, String document) {
        boolean promise = name.startsWith("Promise ");
        int from = document.indexOf(promise ? "## " + name + ":" : "## " + name + "\n");
        there("heading of " + name, from >= 0);
        int begin = document.indexOf('\n', from);
        int end = document.indexOf("\n## ", begin);
        String text = document.substring(begin, end);
        if (promise) {
            text = text.replaceFirst("`[^`]*`:", "");
        } else if (name.equals("What it is")) {
            text = text.substring(text.indexOf("An object is used"));
        }
        return text.replaceAll("==== [1-4] ", "").replaceAll("```(text)?", "")
            .replaceAll("\nAhead of the calls [^\n]*", "").replaceAll("\\s+", " ");
    }

    private static Set<String> tests() throws IOException {
        List<Path> files = new ArrayList<>();
        try (Stream<Path> all = Files.list(Path.of("tests"))) {
            all.filter(f -> f.getFileName().toString().endsWith("EdgesTest.java")).forEach(files::add);
        }
        Set<String> tests = new TreeSet<>();
        for (Path file : files) {
            String name = file.getFileName().toString().replace(".java", "");
            try {
                for (Method test : Edges.tests(Class.forName(name))) {
                    tests.add(name + "." + test.getName());
                }
            } catch (ClassNotFoundException e) {
                there(name, false);
            }
        }
        return tests;
    }
}
