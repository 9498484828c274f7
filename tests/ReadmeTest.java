import java.io.IOException;
import java.io.StringWriter;
import java.lang.reflect.Field;
import java.lang.reflect.Method;
import java.lang.reflect.Modifier;
import java.net.URL;
import java.net.URLClassLoader;
import java.nio.file.Files;
import java.nio.file.Path;
import java.util.ArrayList;
import java.util.Comparator;
import java.util.List;
import java.util.Map;
import java.util.TreeMap;
import java.util.TreeSet;
import java.util.regex.Matcher;
import java.util.regex.Pattern;
import java.util.stream.Collectors;
import java.util.stream.Stream;
import javax.tools.JavaCompiler;
import javax.tools.StandardJavaFileManager;
import javax.tools.ToolProvider;

/** README.md: its examples are run, and its list of refusals is that of the document. */
public final class ReadmeTest {
    private static final Check c = new Check();
    private static final Pattern BLOCK = Pattern.compile("```java\n(.*?)```", Pattern.DOTALL);
    /** A line of an example: what it makes, the call, the answer that stands behind it. */
    private static final Pattern LINE = Pattern.compile("(?:int (\\w+) = )?(x\\.(\\w+)\\(.*\\)); +// (-?\\d+|[A-Z]+)(?:: .*|,|)");
    /** As the first ones, calls that no answer is due of: the object, what is done for each sign, what fills it up. */
    private static final Pattern OTHER = Pattern.compile(
        "OwnsLift x = new OwnsLift\\(\\);|for \\(.*\\) \\{|x\\.feed\\(sign\\);|x\\.thing\\(50\\);|\\}");
    private static final Pattern PROMISE = Pattern.compile("\n## Promise \\d+: [^\n]*\n+`\\w+ (\\w+)\\([^`]*`: ([^\n]*)");

    public static void main(String[] args) throws IOException, ReflectiveOperationException {
        String readme = Files.readString(Path.of("README.md"));
        examples(readme);
        face(readme);
        Path document = Path.of("../shared/DOC.md");
        if (Files.exists(document)) {
            refusals(readme, Files.readString(document));
        }
        c.end("ReadmeTest");
    }

    private static void there(String what, boolean so) {
        c.due(what, so ? "there" : "not there", "there");
    }

    // ---- the examples

    private static void examples(String readme) throws IOException, ReflectiveOperationException {
        StringBuilder program = new StringBuilder("import java.util.*;\npublic final class Example {\n"
            + "public static List<Long> answers() {\nList<Long> answers = new ArrayList<>();\n");
        List<String> calls = new ArrayList<>();
        List<Long> due = new ArrayList<>();
        Matcher block = BLOCK.matcher(readme);
        int blocks = 0;
        while (block.find()) {
            blocks++;
            for (String line : block.group(1).split("\n")) {
                Matcher m = LINE.matcher(line.trim());
                if (!m.matches()) {
                    there("an answer behind " + line, OTHER.matcher(line.trim()).matches());
                    program.append(line).append('\n');
                    continue;
                }
                calls.add(m.group(2));
                due.add(number(m.group(4)));
                String result = m.group(1) == null ? "r" + calls.size() : m.group(1);
                program.append("long".equals(typeOf(m.group(3))) ? "long " : "int ").append(result).append(" = ")
                    .append(m.group(2)).append("; answers.add((long) ").append(result).append(");\n");
            }
        }
        program.append("return answers;\n}\n}\n");
        there("two examples", blocks == 2 && calls.size() > 30);
        List<?> answers = run(program.toString());
        for (int i = 0; i < calls.size(); i++) {
            c.due(calls.get(i), (Long) answers.get(i), due.get(i));
        }
    }

    private static long number(String answer) throws ReflectiveOperationException {
        return Character.isLetter(answer.charAt(0)) ? OwnsLift.class.getField(answer).getLong(null) : Long.parseLong(answer);
    }

    private static String typeOf(String name) {
        return Stream.of(OwnsLift.class.getDeclaredMethods()).filter(m -> Modifier.isPublic(m.getModifiers()))
            .filter(m -> m.getName().equals(name)).map(m -> m.getReturnType().getName()).findFirst().orElse("");
    }

    private static List<?> run(String program) throws IOException, ReflectiveOperationException {
        Path work = Files.createTempDirectory("readme");
        try {
            Path source = work.resolve("Example.java");
            Files.writeString(source, program);
            JavaCompiler compiler = ToolProvider.getSystemJavaCompiler();
            StringWriter said = new StringWriter();
            try (StandardJavaFileManager files = compiler.getStandardFileManager(null, null, null)) {
                boolean compiled = compiler.getTask(said, files, null, List.of("-proc:none", "-d", work.toString(), "-cp",
                    System.getProperty("java.class.path")), null, files.getJavaFileObjects(source)).call();
                c.due("the examples, compiled: " + said, compiled ? 1 : 0, 1);
            }
            try (URLClassLoader loader = new URLClassLoader(new URL[] {work.toUri().toURL()})) {
                return (List<?>) loader.loadClass("Example").getMethod("answers").invoke(null);
            }
        } finally {
            try (Stream<Path> made = Files.walk(work)) {
                made.sorted(Comparator.reverseOrder()).map(Path::toFile).forEach(java.io.File::delete);
            }
        }
    }

    // ---- what is told of the face and of the refusals

    private static void face(String readme) {
        String list = readme.substring(readme.indexOf("The calls, in the order"), readme.indexOf("## Refusals"));
        for (Method m : OwnsLift.class.getDeclaredMethods()) {
            if (Modifier.isPublic(m.getModifiers())) {
                there("the call " + m.getName(), list.contains("`" + m.getName() + "`"));
            }
        }
        for (Field f : OwnsLift.class.getDeclaredFields()) {
            if (Modifier.isPublic(f.getModifiers())) {
                there("the constant " + f.getName(), readme.contains("| `" + f.getName() + "` ("));
            }
        }
        there("512 calls", readme.contains("is promised for 512 calls"));
        there("how the tests are run", readme.contains("\n.ci/run\n"));
    }

    /** By refusal the calls of which the document tells it, and those that the row of README.md names. */
    private static void refusals(String readme, String document) {
        Map<String, TreeSet<String>> told = new TreeMap<>();
        for (String refusal : WORDS.keySet()) {
            told.put(refusal, new TreeSet<>());
        }
        Matcher promise = PROMISE.matcher(document);
        int promises = 0;
        while (promise.find()) {
            promises++;
            for (String refusal : WORDS.keySet()) {
                if (Pattern.compile(WORDS.get(refusal)).matcher(promise.group(2)).find()) {
                    told.get(refusal).add(promise.group(1));
                }
            }
        }
        c.due("calls that are promised", promises, 32);
        told.forEach((refusal, calls) -> c.due("calls of " + refusal, row(readme, refusal).toString(), calls.toString()));
    }

    /** What stands ahead of a row, and how the document names that refusal in a promise. */
    private static final Map<String, String> WORDS = Map.of(
        "`NONE` (-1)", "(?<!-1001: )\\bNONE\\b",
        "`BAD` (-2)", "\\bBAD\\b",
        "`STATE` (-3)", "\\bSTATE\\b",
        "`FULL` (-4)", "\\bFULL\\b",
        "`NO` (`Long.MIN_VALUE`)", "\\bNO\\b",
        "-5", "-5\\b",
        "-6", "-6\\b",
        "-10 less the FAULT", "-10 less the FAULT",
        "-1001", "-1001",
        "0", "^An ACT .* 0, and no TRACE then");

    private static TreeSet<String> row(String readme, String refusal) {
        return readme.lines().filter(line -> line.startsWith("| " + refusal + " |"))
            .map(line -> line.split(" \\| ")[2])
            .flatMap(calls -> Pattern.compile("`(\\w+)`").matcher(calls).results())
            .map(call -> call.group(1)).collect(Collectors.toCollection(TreeSet::new));
    }
}
