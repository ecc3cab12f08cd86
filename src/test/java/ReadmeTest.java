import java.io.IOException;
import java.lang.reflect.Method;
import java.lang.reflect.Modifier;
import java.net.URL;
import java.net.URLClassLoader;
import java.nio.file.Files;
import java.nio.file.Path;
import java.util.List;
import java.util.Set;
import java.util.TreeSet;
import java.util.regex.Matcher;
import java.util.regex.Pattern;
import java.util.stream.Collectors;
import java.util.stream.Stream;
import javax.tools.JavaCompiler;
import javax.tools.ToolProvider;

/** What README.md says is so: the answers of its example, the calls, the reasons, the tests that it names. */
public final class ReadmeTest {
    private static final Checks CHECKS = new Checks();
    private static final Pattern ANSWER = Pattern.compile("(x\\..*);\\s+// (-?\\d+|true|false)(:.*)?");
    private static final Path TESTS = Path.of("src/test/java");

    public static void main(String[] args) throws IOException, ReflectiveOperationException {
        String readme = Files.readString(Path.of("README.md"));
        example(readme);
        calls(readme);
        reasons(readme);
        dueNames("tests", firstCells(readme, "| test |"), filesWith("Test.java"));
        dueNames("parts", firstCells(readme, "| part |"), filesWith("Bounds.java"));
        paths(readme);
        CHECKS.end();
    }

    private static void example(String readme) throws IOException, ReflectiveOperationException {
        List<String> lines = readme.split("```java\n")[1].split("```")[0].lines().collect(Collectors.toList());
        StringBuilder code = new StringBuilder("public final class Example {\n public static void run(StringBuilder answers) {\n");
        StringBuilder due = new StringBuilder();
        for (String line : lines) {
            Matcher answer = ANSWER.matcher(line);
            if (answer.matches()) {
                code.append("answers.append(").append(answer.group(1)).append(").append('\\n');\n");
                due.append(answer.group(2)).append('\n');
            } else {
                code.append(line).append('\n');
            }
        }
        String got = answersOf(code.append(" }\n}\n").toString());
        List<String> gotLines = got.lines().collect(Collectors.toList());
        List<String> dueLines = due.toString().lines().collect(Collectors.toList());
        CHECKS.due("answers of the example", gotLines.size(), dueLines.size());
        CHECKS.due("the example has answers", dueLines.size() >= 10, true);
        for (int i = 0; i < Math.min(gotLines.size(), dueLines.size()); i++) {
            CHECKS.due("answer " + i + " of the example, " + gotLines.get(i), gotLines.get(i).equals(dueLines.get(i)), true);
        }
    }

    private static String answersOf(String code) throws IOException, ReflectiveOperationException {
        Path work = Files.createTempDirectory("readme");
        Path source = Files.writeString(work.resolve("Example.java"), code);
        try {
            JavaCompiler compiler = ToolProvider.getSystemJavaCompiler();
            String classes = System.getProperty("java.class.path");
            int exit = compiler.run(null, null, null, "-cp", classes, "-d", work.toString(), source.toString());
            CHECKS.due("the example compiles", exit, 0);
            StringBuilder answers = new StringBuilder();
            if (exit == 0) {
                try (URLClassLoader loader = new URLClassLoader(new URL[] {work.toUri().toURL()})) {
                    loader.loadClass("Example").getMethod("run", StringBuilder.class).invoke(null, answers);
                }
            }
            return answers.toString();
        } finally {
            Files.deleteIfExists(work.resolve("Example.class"));
            Files.delete(source);
            Files.delete(work);
        }
    }

    private static void calls(String readme) {
        Set<String> told = firstCells(readme, "| call |").stream().map(call -> call.replaceAll("\\(.*", "")).collect(Collectors.toSet());
        Set<String> due = Stream.of(FlatBlocks.class.getDeclaredMethods()).filter(method -> Modifier.isPublic(method.getModifiers()))
            .map(Method::getName).collect(Collectors.toSet());
        dueNames("calls", told, due);
    }

    private static void reasons(String readme) throws ReflectiveOperationException {
        List<String> rows = rows(readme, "| reason |");
        CHECKS.due("reasons", rows.size(), 7);
        for (String row : rows) {
            String[] cells = row.split("\\|");
            String name = cells[1].replace("`", "").strip();
            CHECKS.due(name, FlatBlocks.class.getField(name).getInt(null), Integer.parseInt(cells[2].strip()));
        }
    }

    /** All files and directories that it names are there. */
    private static void paths(String readme) {
        Matcher path = Pattern.compile("`((?:\\.\\./)?(?:shared|src)/[^`* ]+)`").matcher(readme);
        while (path.find()) {
            boolean shared = path.group(1).startsWith("../shared") && !Files.exists(Path.of("../shared"));
            CHECKS.due(path.group(1) + " is there", shared || Files.exists(Path.of(path.group(1))), true);
        }
        CHECKS.due(".ci/run can be run", Files.isExecutable(Path.of(".ci/run")), true);
        for (String helper : List.of("PlainPacker", "PlainUnpacker")) {
            CHECKS.due(helper + " is named and there", readme.contains("`" + helper + "`")
                && Files.exists(TESTS.resolve(helper + ".java")), true);
        }
    }

    /** The rows of a table, without its head. */
    private static List<String> rows(String readme, String head) {
        return readme.lines().dropWhile(line -> !line.startsWith(head)).skip(2).takeWhile(line -> line.startsWith("|"))
            .collect(Collectors.toList());
    }

    private static Set<String> firstCells(String readme, String head) {
        return rows(readme, head).stream().map(row -> row.split("\\|")[1].replace("`", "").strip()).collect(Collectors.toSet());
    }

    private static Set<String> filesWith(String end) throws IOException {
        try (Stream<Path> files = Files.list(TESTS)) {
            return files.map(file -> file.getFileName().toString()).filter(name -> name.endsWith(end))
                .map(name -> name.substring(0, name.length() - ".java".length())).collect(Collectors.toSet());
        }
    }

    private static void dueNames(String what, Set<String> told, Set<String> due) {
        CHECKS.due(what + " " + new TreeSet<>(told) + " are " + new TreeSet<>(due), told.equals(due), true);
        CHECKS.due("there are " + what, told.isEmpty(), false);
    }
}
