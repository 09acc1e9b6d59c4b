import java.io.ByteArrayOutputStream;
import java.io.IOException;
import java.io.PrintStream;
import java.lang.reflect.InvocationTargetException;
import java.lang.reflect.Method;
import java.net.URL;
import java.net.URLClassLoader;
import java.nio.charset.StandardCharsets;
import java.nio.file.Files;
import java.nio.file.Path;
import java.util.ArrayList;
import java.util.List;
import java.util.stream.Stream;
import javax.tools.JavaCompiler;
import javax.tools.ToolProvider;

/** README.md says how to use the class: the program in it prints what stands there, no call and no test is left out. */
final class ReadmeTest {
    private static final Path BUILT = Path.of("build/readme");

    private static final Check check = new Check();

    public static void main(String[] args) throws IOException, ReflectiveOperationException {
        List<String> page = Files.readAllLines(Path.of("README.md"), StandardCharsets.US_ASCII);
        program(block(page, "java"), block(page, "text"));
        calls(page);
        questions(page);
        tests(page);
        check.end("ReadmeTest");
    }

    /** The first block of that kind, as one text. */
    private static String block(List<String> page, String kind) {
        int from = page.indexOf("```" + kind) + 1;
        check.isTrue("README.md has a block of " + kind, from > 0);
        int length = page.subList(from, page.size()).indexOf("```");
        return String.join("\n", page.subList(from, from + Math.max(0, length))) + "\n";
    }

    private static void program(String source, String due) throws IOException, ReflectiveOperationException {
        Files.createDirectories(BUILT);
        Path file = Files.writeString(BUILT.resolve("Example.java"), source);
        JavaCompiler compiler = ToolProvider.getSystemJavaCompiler();
        int wrong = compiler.run(null, null, null, "-proc:none", "-Xlint:all", "-Werror",
            "-cp", System.getProperty("java.class.path"), "-d", BUILT.toString(), file.toString());
        check.same("the program of README.md compiles: the exit code of javac", wrong, 0);
        if (wrong == 0) {
            check.sameText("what the program of README.md prints", printed(), due);
        }
    }

    private static String printed() throws IOException, ReflectiveOperationException {
        ByteArrayOutputStream bytes = new ByteArrayOutputStream();
        PrintStream screen = System.out;
        try (URLClassLoader loader = new URLClassLoader(new URL[] {BUILT.toUri().toURL()});
                PrintStream caught = new PrintStream(bytes, true, StandardCharsets.US_ASCII)) {
            System.setOut(caught);
            loader.loadClass("Example").getMethod("main", String[].class).invoke(null, (Object) new String[0]);
        } catch (InvocationTargetException e) {
            return "thrown: " + e.getCause();
        } finally {
            System.setOut(screen);
        }
        return bytes.toString(StandardCharsets.US_ASCII).replace(System.lineSeparator(), "\n");
    }

    /** The cells of the row of a table that begins with that one; none without such a row. */
    private static List<String> row(List<String> page, String first) {
        for (String line : page) {
            if (line.startsWith("| " + first)) {
                List<String> cells = new ArrayList<>();
                for (String cell : line.substring(1).split("[|]")) {
                    cells.add(cell.trim());
                }
                return cells;
            }
        }
        return List.of();
    }

    private static void calls(List<String> page) {
        for (Method method : Clickbook.class.getMethods()) {
            if (method.getDeclaringClass() == Clickbook.class) {
                List<String> cells = row(page, "`" + method.getName() + "(");
                check.isTrue("README.md has a row of " + method.getName(), !cells.isEmpty());
                if (!cells.isEmpty()) {
                    String call = cells.get(0);
                    String given = call.substring(call.indexOf('(') + 1, call.indexOf(')'));
                    check.same("what README.md gives to " + method.getName(),
                        given.isEmpty() ? 0 : given.split(",").length, method.getParameterCount());
                    check.sameText("what README.md says " + method.getName() + " throws",
                        cells.get(cells.size() - 1), thrownBy(method));
                }
            }
        }
    }

    private static String thrownBy(Method method) {
        List<String> letters = new ArrayList<>();
        for (Class<?> thrown : method.getExceptionTypes()) {
            letters.add(thrown == Check.INDEX ? "X" : thrown == Check.ARGUMENT ? "A" : "S");
        }
        return String.join(" ", letters);
    }

    /** The table of what may be asked by number has a cell for each number that a call takes, and for no other. */
    private static void questions(List<String> page) {
        String[] names = {"ofHit", "ofCue", "ofBar", "ofTake", "many"};
        int[] most = {6, 12, 3, 4, 15};
        List<String> head = row(page, "`what`");
        for (int k = 0; k < names.length; k++) {
            int column = head.indexOf("`" + names[k] + "`");
            check.isTrue("README.md has a column of " + names[k], column > 0);
            for (int what = 0; what <= 15 && column > 0; what++) {
                List<String> cells = row(page, what + " |");
                boolean told = column < cells.size() && !cells.get(column).isEmpty();
                check.isTrue("what README.md says of " + names[k] + " of " + what, told == (what <= most[k]));
            }
        }
    }

    private static void tests(List<String> page) throws IOException {
        try (Stream<Path> files = Files.list(Path.of("src/test/java"))) {
            for (Path file : files.sorted().toList()) {
                String name = file.getFileName().toString().replace(".java", "");
                if (name.endsWith("Test")) {
                    check.isTrue("README.md has a row of " + name, !row(page, "`" + name + "`").isEmpty());
                }
            }
        }
    }
}
