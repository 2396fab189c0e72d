import java.io.IOException;
import java.io.StringWriter;
import java.net.URI;
import java.net.URL;
import java.net.URLClassLoader;
import java.nio.file.Files;
import java.nio.file.Path;
import java.util.ArrayList;
import java.util.List;
import java.util.function.Supplier;
import java.util.regex.Matcher;
import java.util.regex.Pattern;
import java.util.stream.Stream;
import javax.tools.JavaCompiler;
import javax.tools.JavaFileObject;
import javax.tools.SimpleJavaFileObject;
import javax.tools.ToolProvider;

/** README.md's code compiles, and its calls answer what stands behind them; run from the project's directory. */
public final class ReadmeTest {
    private static final Pattern BLOCK = Pattern.compile("^```java\n(.*?)^```$", Pattern.DOTALL | Pattern.MULTILINE);
    private static final Pattern ANSWERED =
            Pattern.compile("((?:valley\\.\\w+|tell)\\(.*\\)); +// (-?\\d+|true|false|throws \\w+)(?:[ :].*)?");
    private static final Pattern ASKED = Pattern.compile("(?:valley\\.(?!clear|image)\\w+|tell)\\(.*");

    public static void main(String[] args) throws Exception {
        List<String> blocks = blocks(Files.readString(Path.of("README.md")));
        Check.due("blocks of Java in README.md: the method and the calls", 2, blocks.size());
        if (blocks.size() == 2) {
            everyCallIsShown(blocks.get(1));
            run(program(blocks.get(0), blocks.get(1)));
        }
        Check.end();
    }

    private static List<String> blocks(String page) {
        List<String> found = new ArrayList<>();
        Matcher block = BLOCK.matcher(page);
        while (block.find()) {
            found.add(block.group(1));
        }
        return found;
    }

    private static void everyCallIsShown(String calls) {
        Stream.of(ClapValley.class.getMethods()).filter(method -> method.getDeclaringClass() == ClapValley.class)
                .forEach(method -> Check.due("README.md shows " + method.getName(), true, calls.contains("valley." + method.getName() + "(")));
    }

    /** The page's lines as a program, in which each call with an answer behind it is compared with that. */
    private static String program(String method, String calls) {
        StringBuilder made = new StringBuilder("public final class ReadmeExample {\n");
        made.append(method).append("public static void run() {\n");
        for (String line : calls.split("\n")) {
            Matcher answered = ANSWERED.matcher(line);
            if (answered.matches()) {
                String quoted = answered.group(1).replace("\\", "\\\\").replace("\"", "\\\"");
                made.append("ReadmeTest.same(\"").append(quoted).append("\", \"").append(answered.group(2)).append("\", () -> ")
                        .append(answered.group(1)).append(");\n");
            } else {
                Check.due("README.md has no answer behind " + line, false, ASKED.matcher(line).matches());
                made.append(line).append('\n');
            }
        }
        return made.append("}\n}\n").toString();
    }

    /** Called by the program that is made of the page. */
    public static void same(String call, String want, Supplier<Object> made) {
        String got;
        try {
            got = String.valueOf(made.get());
        } catch (RuntimeException e) {
            got = "throws " + e.getClass().getSimpleName();
        }
        Check.due("README.md's " + call, want, got);
    }

    private static void run(String program) throws Exception {
        Path out = Files.createTempDirectory("readme");
        try {
            StringWriter said = new StringWriter();
            JavaCompiler compiler = ToolProvider.getSystemJavaCompiler();
            List<String> options = List.of("-d", out.toString(), "-cp", System.getProperty("java.class.path"));
            boolean compiled = compiler.getTask(said, null, null, options, null, List.of(new Source(program))).call();
            Check.due("README.md's code compiles: " + said, true, compiled);
            if (compiled) {
                load(out);
            }
        } finally {
            Files.deleteIfExists(out.resolve("ReadmeExample.class"));
            Files.delete(out);
        }
    }

    private static void load(Path out) throws IOException, ReflectiveOperationException {
        try (URLClassLoader loader = new URLClassLoader(new URL[] {out.toUri().toURL()}, ReadmeTest.class.getClassLoader())) {
            loader.loadClass("ReadmeExample").getMethod("run").invoke(null);
        }
    }

    private static final class Source extends SimpleJavaFileObject {
        private final String text;

        Source(String text) {
            super(URI.create("string:///ReadmeExample.java"), JavaFileObject.Kind.SOURCE);
            this.text = text;
        }

        @Override
        public CharSequence getCharContent(boolean ignoreEncodingErrors) {
            return text;
        }
    }
}
