import java.io.IOException;
import java.lang.reflect.Method;
import java.lang.reflect.Modifier;
import java.net.URL;
import java.net.URLClassLoader;
import java.nio.charset.StandardCharsets;
import java.nio.file.Files;
import java.nio.file.Path;
import java.util.ArrayList;
import java.util.List;
import java.util.function.BiConsumer;
import java.util.regex.MatchResult;
import java.util.regex.Matcher;
import java.util.regex.Pattern;
import javax.tools.ToolProvider;

/** Whether README.md's examples answer what stands behind them, and whether it tells of every call. */
public final class ReadmeTest {
    private static final Exam exam = new Exam();
    private static final Pattern BLOCK = Pattern.compile("(?s)```java\n(.*?)```");
    private static final Pattern ASKED = Pattern.compile("(?m)^(x\\.\\w+\\([^;]*\\)); +// (-?\\d+)\\b.*$");
    private static final Pattern CALL = Pattern.compile("\\bx\\.\\w+\\(");

    public static void main(String[] args) throws IOException, ReflectiveOperationException {
        String readme = Files.readString(Path.of("README.md"), StandardCharsets.ISO_8859_1);
        for (Method method : NumberWords.class.getDeclaredMethods()) {
            if (Modifier.isPublic(method.getModifiers())) {
                exam.holds("README.md tells of " + method.getName(),
                        Pattern.compile("`" + method.getName() + "[(`]").matcher(readme).find());
            }
        }
        List<String> helpers = new ArrayList<>();
        List<String> examples = new ArrayList<>();
        Matcher block = BLOCK.matcher(readme);
        while (block.find()) {
            (block.group(1).startsWith("static") ? helpers : examples).add(block.group(1));
        }
        exam.holds("README.md has examples", examples.size() > 4);
        for (int i = 0; i < examples.size(); i++) {
            eachCallIsAsked(examples.get(i));
            run("Example" + i, String.join("\n", helpers), examples.get(i));
        }
        exam.close("ReadmeTest");
    }

    /** A call whose answer stands in no comment would be looked at by nobody. */
    private static void eachCallIsAsked(String example) {
        for (String line : example.split("\n")) {
            exam.holds("an answer stands behind: " + line, !CALL.matcher(line).find() || ASKED.matcher(line).find());
        }
    }

    private static void run(String name, String helpers, String example) throws IOException,
            ReflectiveOperationException {
        Path out = Files.createTempDirectory("readme");
        Path file = out.resolve(name + ".java");
        Files.writeString(file, "public final class " + name + " {\n" + helpers
                + "\npublic static void ask(java.util.function.BiConsumer<String, int[]> due) {\n"
                + ASKED.matcher(example).replaceAll(ReadmeTest::asked) + "}\n}\n");
        int failed = ToolProvider.getSystemJavaCompiler().run(null, null, null, "-encoding", "UTF-8", "-d",
                out.toString(), "-cp", System.getProperty("java.class.path"), file.toString());
        exam.holds(name + " compiles", failed == 0);
        if (failed == 0) {
            BiConsumer<String, int[]> due = (call, answers) -> exam.due(name + ": " + call, answers[0], answers[1]);
            try (URLClassLoader loader = new URLClassLoader(new URL[] {out.toUri().toURL()})) {
                loader.loadClass(name).getMethod("ask", BiConsumer.class).invoke(null, due);
            }
        }
        Files.deleteIfExists(out.resolve(name + ".class"));
        Files.delete(file);
        Files.delete(out);
    }

    private static String asked(MatchResult line) {
        return Matcher.quoteReplacement("due.accept(\"" + line.group(1) + "\", new int[] {" + line.group(1) + ", "
                + line.group(2) + "});");
    }
}
