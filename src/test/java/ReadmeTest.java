import java.io.File;
import java.io.IOException;
import java.lang.reflect.Method;
import java.lang.reflect.Modifier;
import java.net.URL;
import java.net.URLClassLoader;
import java.nio.file.Files;
import java.nio.file.Path;
import java.util.ArrayList;
import java.util.Arrays;
import java.util.List;
import java.util.TreeSet;
import java.util.regex.Matcher;
import java.util.regex.Pattern;
import javax.tools.ToolProvider;

/** README.md, read in the directory that the test is run from: what it says is so. */
public final class ReadmeTest {
    private static final Pattern ANSWER =
            Pattern.compile("(?:int|boolean) (\\w+) = .*; *// (-?\\d+|true|false)\\b.*");

    private final Bench bench = new Bench();
    private final List<String> lines;

    private ReadmeTest(List<String> lines) {
        this.lines = lines;
    }

    public static void main(String[] args) throws IOException {
        ReadmeTest test = new ReadmeTest(Files.readAllLines(Path.of("README.md")));
        test.bench.sentence("the example's answers are those told behind it", test::example);
        test.bench.sentence("all calls are told", test::calls);
        test.bench.sentence("the example of each kind is of that kind", test::kinds);
        test.bench.sentence("the example of each fault is told at its place", test::faults);
        test.bench.sentence("all tests are named, and no other", test::tests);
        test.bench.sentence("all classes inside are named", test::inside);
        test.bench.end();
    }

    private void example() {
        StringBuilder source = new StringBuilder("public final class Example {\n"
                + "public static String answers() {\nStringBuilder told = new StringBuilder();\n");
        StringBuilder due = new StringBuilder();
        int from = lines.indexOf("```java") + 1;
        for (int at = from; at > 0 && !lines.get(at).equals("```"); at++) {
            source.append(lines.get(at)).append('\n');
            Matcher answer = ANSWER.matcher(lines.get(at));
            if (answer.matches()) {
                String name = answer.group(1);
                source.append("told.append(\" ").append(name).append(" \").append(").append(name).append(");\n");
                due.append(' ').append(name).append(' ').append(answer.group(2));
            }
        }
        source.append("return told.toString();\n}\n}\n");
        bench.due("lines with an answer", due.length() > 0, true);
        bench.due("answers", run(source.toString()), due.toString());
    }

    private static String run(String source) {
        try {
            Path place = Files.createTempDirectory("readme");
            Path file = Files.writeString(place.resolve("Example.java"), source);
            // They are deleted in the order against this one.
            place.toFile().deleteOnExit();
            file.toFile().deleteOnExit();
            place.resolve("Example.class").toFile().deleteOnExit();
            int failed = ToolProvider.getSystemJavaCompiler().run(null, null, null, "-cp",
                    System.getProperty("java.class.path"), "-d", place.toString(), file.toString());
            if (failed != 0) {
                return "does not compile";
            }
            try (URLClassLoader loader = new URLClassLoader(new URL[] {place.toUri().toURL()})) {
                return (String) loader.loadClass("Example").getMethod("answers").invoke(null);
            }
        } catch (IOException | ReflectiveOperationException e) {
            return e.toString();
        }
    }

    private void calls() {
        for (Method method : SheetObjects.class.getDeclaredMethods()) {
            if (Modifier.isPublic(method.getModifiers())) {
                Pattern told = Pattern.compile("\\| .*`" + method.getName() + "\\(([^)]*)\\)`.* \\| .*");
                int parameters = -1;
                for (String line : lines) {
                    Matcher row = told.matcher(line);
                    if (row.matches()) {
                        parameters = row.group(1).isEmpty() ? 0 : row.group(1).split(",").length;
                    }
                }
                bench.due(method.getName() + " and its parameters", parameters, method.getParameterCount());
            }
        }
    }

    private void kinds() {
        int next = 0;
        for (String[] row : rows("Kind")) {
            Used x = Scene.tape(code(row[2])).now();
            int node = row[1].contains("`entry`") ? x.entry(0) : x.read(0);
            bench.due(row[1], x.kind(node), Integer.parseInt(row[0]));
            bench.due("in their order", Integer.parseInt(row[0]), next);
            next++;
        }
        bench.due("kinds", next, 10);
    }

    private void faults() {
        StringBuilder told = new StringBuilder();
        for (String[] row : rows("Answer")) {
            told.append(code(row[0])).append(' ');
            if (!row[3].isEmpty()) {
                Used x = Scene.tape(code(row[3])).now();
                int answer = row[2].equals("`entry`") ? x.entry(0) : x.read(0);
                bench.due(row[3], answer, constant(code(row[0])));
                bench.due(row[3] + " place", x.last(0), Integer.parseInt(row[4]));
            }
        }
        bench.due("faults", told.toString(), "ENDED TOKEN STRING NAME KEY DEEP FULL STREAM HEAD BODY ");
    }

    private static int constant(String name) {
        try {
            return SheetObjects.class.getField(name).getInt(null);
        } catch (ReflectiveOperationException e) {
            throw new IllegalStateException(e);
        }
    }

    private void tests() {
        TreeSet<String> named = new TreeSet<>();
        for (String[] row : rows("Test")) {
            for (String name : row[0].split(", ")) {
                named.add(code(name));
            }
        }
        TreeSet<String> present = new TreeSet<>();
        for (String file : new File("src/test/java").list()) {
            if (file.endsWith("Test.java")) {
                present.add(file.substring(0, file.length() - ".java".length()));
            }
        }
        bench.due("tests", named.toString(), present.toString());
    }

    private void inside() {
        String text = String.join("\n", lines);
        for (Class<?> one : SheetObjects.class.getDeclaredClasses()) {
            bench.due(one.getSimpleName(), text.contains("`" + one.getSimpleName() + "`"), true);
        }
    }

    /** The rows of the table whose head begins with a word, each with as many cells as the head. */
    private List<String[]> rows(String head) {
        List<String[]> rows = new ArrayList<>();
        int at = 0;
        while (at < lines.size() && !lines.get(at).startsWith("| " + head + " |")) {
            at++;
        }
        int cells = at < lines.size() ? cells(lines.get(at)).length : 0;
        for (at += 2; at < lines.size() && lines.get(at).startsWith("|"); at++) {
            rows.add(Arrays.copyOf(cells(lines.get(at)), cells));
        }
        bench.due("rows of " + head, rows.isEmpty(), false);
        return rows;
    }

    private static String[] cells(String line) {
        String[] parts = line.split("\\|", -1);
        String[] cells = new String[parts.length - 2];
        for (int i = 0; i < cells.length; i++) {
            cells[i] = parts[i + 1].strip();
        }
        return cells;
    }

    /** What stands between the two marks of a text of code; \n in it is a line's end. */
    private static String code(String cell) {
        return cell.substring(1, cell.length() - 1).replace("\\n", "\n");
    }
}
