import java.io.IOException;
import java.lang.reflect.InvocationTargetException;
import java.lang.reflect.Method;
import java.lang.reflect.Modifier;
import java.net.URL;
import java.net.URLClassLoader;
import java.nio.file.DirectoryStream;
import java.nio.file.Files;
import java.nio.file.Path;
import java.util.ArrayList;
import java.util.List;
import java.util.Map;
import java.util.regex.Matcher;
import java.util.regex.Pattern;
import javax.tools.JavaCompiler;
import javax.tools.ToolProvider;

/** What README.md shows is so when it is run: each example is compiled, each answer beside a call compared. */
public final class ReadmeTest {
    private static final Due due = new Due("ReadmeTest");
    private static final Pattern EXAMPLE = Pattern.compile("```java\n(.*?)```", Pattern.DOTALL);
    private static final Pattern ANSWERED = Pattern.compile("(x\\.\\w+\\(.*?\\)); +// (-?\\d+|BAD|NO|FULL|NONE)(: .+)?");
    private static final Map<String, Integer> NAMES = Map.of("BAD", -1, "NO", -2, "FULL", -3, "NONE", -4);

    public static void main(String[] args) throws IOException, ReflectiveOperationException {
        String page = Files.readString(Path.of("README.md"));
        int examples = 0;
        for (Matcher m = EXAMPLE.matcher(page); m.find();) {
            example(examples, m.group(1));
            examples++;
        }
        due.is("examples", examples, 2);
        everyCallIsTold(page);
        everyTestIsTold(page);
        due.end();
    }

    private static void example(int number, String shown) throws IOException, ReflectiveOperationException {
        String name = "Example" + number;
        List<String> calls = new ArrayList<>();
        List<Integer> answers = new ArrayList<>();
        StringBuilder code = new StringBuilder("public final class " + name + " {\n");
        code.append("public static void run(java.util.List<Long> all) {\n");
        for (String line : shown.split("\n")) {
            Matcher answered = ANSWERED.matcher(line);
            if (answered.matches()) {
                calls.add(answered.group(1));
                String answer = answered.group(2);
                answers.add(NAMES.containsKey(answer) ? NAMES.get(answer) : Integer.valueOf(answer));
                code.append("all.add((long) ").append(answered.group(1)).append(");\n");
            } else {
                due.holds("an answer beside " + line, !line.startsWith("x."));
                code.append(line).append('\n');
            }
        }
        List<Long> got = answersOf(name, code.append("}\n}\n").toString());
        due.is("answers of " + name, got.size(), calls.size());
        for (int i = 0; i < got.size(); i++) {
            due.is(name + " " + calls.get(i), got.get(i), answers.get(i));
        }
    }

    private static List<Long> answersOf(String name, String code) throws IOException, ReflectiveOperationException {
        Path folder = Files.createTempDirectory("readme");
        Path file = folder.resolve(name + ".java"), made = folder.resolve(name + ".class");
        List<Long> all = new ArrayList<>();
        try {
            Files.writeString(file, code);
            JavaCompiler javac = ToolProvider.getSystemJavaCompiler();
            String classes = System.getProperty("java.class.path");
            int failed = javac.run(null, null, null, "-cp", classes, "-d", folder.toString(), file.toString());
            due.is(name + " does not compile", failed, 0);
            if (failed == 0) {
                run(folder, name, all);
            }
        } finally {
            Files.deleteIfExists(made);
            Files.deleteIfExists(file);
            Files.delete(folder);
        }
        return all;
    }

    private static void run(Path folder, String name, List<Long> all) throws IOException, ReflectiveOperationException {
        try (URLClassLoader loader = new URLClassLoader(new URL[] {folder.toUri().toURL()})) {
            loader.loadClass(name).getMethod("run", List.class).invoke(null, all);
        } catch (InvocationTargetException thrown) {
            due.holds(name + " threw " + thrown.getCause(), false);
        }
    }

    private static void everyCallIsTold(String page) {
        for (Method call : ShoutedPrices.class.getDeclaredMethods()) {
            boolean isPublic = Modifier.isPublic(call.getModifiers());
            due.holds(call.getName() + " has a row", !isPublic || page.contains("| `" + call.getName() + "("));
        }
    }

    private static void everyTestIsTold(String page) throws IOException {
        try (DirectoryStream<Path> files = Files.newDirectoryStream(Path.of("src/test/java"), "*Test.java")) {
            for (Path file : files) {
                String name = file.getFileName().toString().replace(".java", "");
                due.holds(name + " is told", page.contains("`" + name + "`") || name.startsWith("Promise"));
            }
        }
    }
}
