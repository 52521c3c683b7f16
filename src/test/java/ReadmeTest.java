import java.io.File;
import java.io.IOException;
import java.io.StringWriter;
import java.lang.reflect.Method;
import java.lang.reflect.Modifier;
import java.net.URL;
import java.net.URLClassLoader;
import java.nio.file.Files;
import java.nio.file.Path;
import java.util.ArrayList;
import java.util.List;
import java.util.regex.Matcher;
import java.util.regex.Pattern;
import javax.tools.JavaCompiler;
import javax.tools.StandardJavaFileManager;
import javax.tools.ToolProvider;

/**
 * The calls that README.md shows: they are compiled against the class as they stand there and run one after another;
 * each answers what the comment behind it begins with. Blocks that begin with "static" are helpers, all others one run.
 */
public final class ReadmeTest {
    private static final Pattern BLOCK = Pattern.compile("(?ms)^```java\n(.*?)^```");
    private static final Pattern CALL = Pattern.compile("(\\S.*?);\\s+// (-?\\d+|NONE|NOTHING)(: .*)?");
    private static final Pattern MAKING = Pattern.compile("AnswerDays \\w+ = new AnswerDays\\(\\);.*");
    private static final Check C = new Check("ReadmeTest");

    public static void main(String[] args) throws IOException, ReflectiveOperationException {
        String readme = Files.readString(Path.of(args.length > 1 ? args[1] : "README.md"));
        List<String> shown = new ArrayList<>();
        String source = programOf(readme, shown);
        C.due("README.md shows calls", shown.size() > 0);
        everyCallIsShown(String.join("\n", shown));
        Path place = Files.createTempDirectory("readme");
        try {
            if (compiles(source, place)) {
                run(place);
            }
        } finally {
            for (File file : place.toFile().listFiles()) {
                file.delete();
            }
            place.toFile().delete();
        }
        C.close();
    }

    private static String programOf(String readme, List<String> shown) {
        StringBuilder helpers = new StringBuilder();
        StringBuilder body = new StringBuilder();
        Matcher blocks = BLOCK.matcher(readme);
        while (blocks.find()) {
            if (blocks.group(1).startsWith("static ")) {
                helpers.append(blocks.group(1));
            } else {
                for (String line : blocks.group(1).split("\n")) {
                    body.append(statementOf(line.trim(), shown)).append('\n');
                }
            }
        }
        return "public final class ReadmeCalls {\n" + helpers
            + "static void due(java.util.List<Object> answers, String call, long got, long want) {\n"
            + "answers.add(call);\nanswers.add(got);\nanswers.add(want);\n}\n"
            + "public static void run(java.util.List<Object> answers) {\n" + body + "}\n}\n";
    }

    private static String statementOf(String line, List<String> shown) {
        Matcher call = CALL.matcher(line);
        if (call.matches()) {
            shown.add(call.group(1));
            String due = call.group(2).startsWith("NO") ? "AnswerDays." + call.group(2) : call.group(2) + "L";
            return "due(answers, \"" + call.group(1).replace("\\", "\\\\").replace("\"", "\\\"") + "\", " + call.group(1) + ", " + due + ");";
        }
        C.due("README.md says what it answers: " + line, line.isEmpty() || MAKING.matcher(line).matches());
        return line;
    }

    private static void everyCallIsShown(String shown) {
        for (Method m : AnswerDays.class.getDeclaredMethods()) {
            if (Modifier.isPublic(m.getModifiers())) {
                C.due("README.md shows " + m.getName() + "()", shown.contains("x." + m.getName() + "("));
            }
        }
    }

    private static boolean compiles(String source, Path place) throws IOException {
        Path file = place.resolve("ReadmeCalls.java");
        Files.writeString(file, source);
        JavaCompiler compiler = ToolProvider.getSystemJavaCompiler();
        StringWriter said = new StringWriter();
        try (StandardJavaFileManager files = compiler.getStandardFileManager(null, null, null)) {
            boolean good = compiler.getTask(said, files, null, List.of("--release", "17", "-d", place.toString(), "-cp",
                System.getProperty("java.class.path")), null, files.getJavaFileObjects(file)).call();
            C.due("what README.md shows compiles: " + said, good);
            return good;
        }
    }

    private static void run(Path place) throws IOException, ReflectiveOperationException {
        List<Object> answers = new ArrayList<>();
        try (URLClassLoader loader = new URLClassLoader(new URL[] {place.toUri().toURL()}, ReadmeTest.class.getClassLoader())) {
            loader.loadClass("ReadmeCalls").getMethod("run", List.class).invoke(null, answers);
        }
        for (int i = 0; i < answers.size(); i += 3) {
            C.due((String) answers.get(i), (Long) answers.get(i + 1), (Long) answers.get(i + 2));
        }
    }
}
