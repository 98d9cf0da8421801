import java.io.ByteArrayOutputStream;
import java.io.PrintStream;
import java.lang.reflect.Method;
import java.lang.reflect.Modifier;
import java.net.URI;
import java.net.URL;
import java.net.URLClassLoader;
import java.nio.charset.StandardCharsets;
import java.nio.file.Files;
import java.nio.file.Path;
import java.util.ArrayList;
import java.util.List;
import javax.tools.JavaCompiler;
import javax.tools.SimpleJavaFileObject;
import javax.tools.StandardJavaFileManager;
import javax.tools.ToolProvider;

/** README.md: its program prints what stands behind its calls, its table has the whole face. Run where it lies. */
public final class ReadmeTest extends TestBase {
    private static final String PRINTS = "System.out.println(";

    /** The program as a source that isn't in a file. */
    private static final class Source extends SimpleJavaFileObject {
        private final String text;

        Source(String text) {
            super(URI.create("string:///Example.java"), Kind.SOURCE);
            this.text = text;
        }

        @Override
        public CharSequence getCharContent(boolean ignored) {
            return text;
        }
    }

    public static void main(String[] args) throws Exception {
        List<String> readme = Files.readAllLines(Path.of("README.md"));
        List<String> program = program(readme);
        List<String> due = due(program);
        List<String> printed = printed(String.join("\n", program));
        due("lines printed", printed.size(), due.size());
        due("calls shown", due.size() >= 20, true);
        for (int i = 0; i < Math.min(printed.size(), due.size()); i++) dueText("call " + i, printed.get(i), due.get(i));
        table(readme);
        end("README");
    }

    private static List<String> program(List<String> readme) {
        int start = readme.indexOf("```java") + 1;
        List<String> rest = readme.subList(start, readme.size());
        return rest.subList(0, rest.indexOf("```"));
    }

    /** What stands behind // up to a colon, of each line that prints. */
    private static List<String> due(List<String> program) {
        List<String> due = new ArrayList<>();
        for (String line : program) {
            if (line.contains(PRINTS)) {
                String behind = line.substring(line.indexOf("// ") + 3);
                due.add(behind.split(":")[0].trim());
            }
        }
        return due;
    }

    private static List<String> printed(String program) throws Exception {
        Path out = Files.createTempDirectory("readme");
        try {
            JavaCompiler compiler = ToolProvider.getSystemJavaCompiler();
            try (StandardJavaFileManager files = compiler.getStandardFileManager(null, null, null)) {
                List<String> options = List.of("-d", out.toString(), "-cp", System.getProperty("java.class.path"));
                due("compiling", compiler.getTask(null, files, null, options, null, List.of(new Source(program))).call(), true);
            }
            return run(out);
        } finally {
            Files.deleteIfExists(out.resolve("Example.class"));
            Files.deleteIfExists(out);
        }
    }

    private static List<String> run(Path out) throws Exception {
        PrintStream before = System.out;
        ByteArrayOutputStream bytes = new ByteArrayOutputStream();
        try (URLClassLoader loader = new URLClassLoader(new URL[] {out.toUri().toURL()})) {
            System.setOut(new PrintStream(bytes, true, StandardCharsets.UTF_8));
            loader.loadClass("Example").getMethod("main", String[].class).invoke(null, (Object) new String[0]);
        } finally {
            System.setOut(before);
        }
        return bytes.toString(StandardCharsets.UTF_8).lines().toList();
    }

    /** Each call of the face has one row, with as many arguments as it takes. */
    private static void table(List<String> readme) {
        for (Method method : CellFigures.class.getDeclaredMethods()) {
            if (Modifier.isPublic(method.getModifiers())) {
                int rows = 0;
                for (String line : readme) {
                    if (line.startsWith("| `" + method.getName() + "(")) {
                        rows++;
                        String inner = line.substring(line.indexOf('(') + 1, line.indexOf(')'));
                        due(method.getName() + " in the table", inner.isEmpty() ? 0 : inner.split(",").length, method.getParameterCount());
                    }
                }
                due("rows of " + method.getName(), rows, 1);
            }
        }
    }
}
