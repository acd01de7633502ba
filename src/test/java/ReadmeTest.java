import java.lang.reflect.Method;
import java.lang.reflect.Modifier;
import java.net.URL;
import java.net.URLClassLoader;
import java.nio.file.Files;
import java.nio.file.Path;
import java.util.ArrayList;
import java.util.LinkedHashMap;
import java.util.List;
import java.util.Map;
import java.util.regex.Matcher;
import java.util.regex.Pattern;
import java.util.stream.Stream;
import javax.tools.ToolProvider;

/** Compiles the rows of README.md as they stand there, runs them, and compares the answers behind them. */
public final class ReadmeTest {
    private static final Path README = Path.of("README.md");
    private static final Path TESTS = Path.of("src/test/java");
    private static final Path BUILD = Path.of("build/readme");
    private static final Pattern ANSWERED =
            Pattern.compile("(?:int (\\w+) = )?(\\S.*);\\s+// (-?\\d+|[A-Z]+)(?:: .+)?");
    // What needs no answer: a new desk, and a loop with the calls in it.
    private static final Pattern SILENT =
            Pattern.compile("DiagramDesk \\w+ = new DiagramDesk\\(\\);|for \\(.*\\) \\{|    \\S.*;|\\}");

    private final Map<Integer, String> rows = new LinkedHashMap<>();
    private final Map<String, Long> due = new LinkedHashMap<>();
    private final StringBuilder body = new StringBuilder();

    public static void main(String[] args) throws Exception {
        ReadmeTest test = new ReadmeTest();
        test.takeRows();
        test.translate();
        test.compare();
        test.showsAllOfTheFace();
        namesAllTests();
        Due.finish();
    }

    /** The rows of all blocks of Java, one after the other: they are about one desk. */
    private void takeRows() throws Exception {
        boolean inside = false;
        List<String> lines = Files.readAllLines(README);
        for (int k = 0; k < lines.size(); k++) {
            if (lines.get(k).startsWith("```")) {
                inside = lines.get(k).equals("```java");
            } else if (inside) {
                rows.put(k + 1, lines.get(k));
            }
        }
        Due.due("README.md shows calls", rows.isEmpty() ? 0 : 1, 1);
    }

    private void translate() throws Exception {
        for (Map.Entry<Integer, String> entry : rows.entrySet()) {
            String row = entry.getValue();
            Matcher matcher = ANSWERED.matcher(row);
            if (matcher.matches() && !row.startsWith(" ")) {
                due.put("README.md:" + entry.getKey() + ": " + matcher.group(2), answer(matcher.group(3)));
                take(entry.getKey(), matcher.group(1), matcher.group(2));
            } else {
                Due.due("README.md:" + entry.getKey() + ": has an answer or needs none",
                        SILENT.matcher(row).matches() ? 1 : 0, 1);
                body.append(row).append('\n');
            }
        }
    }

    private void take(int line, String variable, String call) {
        String value = variable == null ? "answer" + line : variable;
        String type = variable == null ? "long" : "int";
        body.append(type).append(' ').append(value).append(" = ").append(call).append(";\n");
        body.append("got.add((long) ").append(value).append(");\n");
    }

    private static long answer(String text) throws Exception {
        boolean isName = Character.isLetter(text.charAt(0));
        return isName ? DiagramDesk.class.getField(text).getInt(null) : Long.parseLong(text);
    }

    private void compare() throws Exception {
        int exit = compile();
        Due.due("compiling the rows", exit, 0);
        if (exit != 0) {
            return;
        }
        List<Long> got = run();
        Due.due("rows with an answer", got.size(), due.size());
        int k = 0;
        for (Map.Entry<String, Long> row : due.entrySet()) {
            Due.due(row.getKey(), got.get(k), row.getValue());
            k++;
        }
    }

    private int compile() throws Exception {
        Files.createDirectories(BUILD);
        Path source = BUILD.resolve("ReadmeRows.java");
        Files.writeString(source, "public final class ReadmeRows {\n"
                + "public static void run(java.util.List<Long> got) {\n" + body + "}\n}\n");
        return ToolProvider.getSystemJavaCompiler().run(null, null, null, "-encoding", "UTF-8",
                "-cp", System.getProperty("java.class.path"), "-d", BUILD.toString(), source.toString());
    }

    private static List<Long> run() throws Exception {
        List<Long> got = new ArrayList<>();
        try (URLClassLoader loader = new URLClassLoader(new URL[] {BUILD.toUri().toURL()})) {
            loader.loadClass("ReadmeRows").getMethod("run", List.class).invoke(null, got);
        }
        return got;
    }

    private void showsAllOfTheFace() {
        for (Method method : DiagramDesk.class.getDeclaredMethods()) {
            if (Modifier.isPublic(method.getModifiers())) {
                boolean shown = due.keySet().stream().anyMatch(row -> row.contains("." + method.getName() + "("));
                Due.due("README.md shows " + method.getName(), shown ? 1 : 0, 1);
            }
        }
    }

    private static void namesAllTests() throws Exception {
        String readme = Files.readString(README);
        try (Stream<Path> files = Files.list(TESTS)) {
            for (Path file : (Iterable<Path>) files::iterator) {
                String name = file.getFileName().toString().replace(".java", "");
                boolean isNamed = !name.endsWith("Test") || readme.contains("`" + name + "`");
                Due.due("README.md names " + name, isNamed ? 1 : 0, 1);
            }
        }
    }
}
