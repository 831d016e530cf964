import java.io.IOException;
import java.lang.reflect.InvocationTargetException;
import java.net.URL;
import java.net.URLClassLoader;
import java.nio.file.Files;
import java.nio.file.Path;
import java.util.ArrayList;
import java.util.List;
import java.util.Map;
import java.util.TreeMap;
import java.util.TreeSet;
import java.util.regex.Matcher;
import java.util.regex.Pattern;
import javax.tools.ToolProvider;

/** Runs the example of README.md as it stands there, and compares its tables with the document's face. */
public final class ReadmeTest {
    private static final Pattern CALL =
            Pattern.compile("(int \\w+ = )?(form\\.(\\w+)\\(.*\\));\\s*// (-?\\d+|[A-Z]+)(?::.*)?");
    private static final String MAKES_FORM = "ThinkingForm form = new ThinkingForm();";
    private static final String NAME = "ReadmeExample";
    private static final Check check = new Check("ReadmeTest");
    private static final Face face = new Face();

    private static final List<String> shown = new ArrayList<>();
    private static final List<Integer> due = new ArrayList<>();
    private static final TreeSet<String> called = new TreeSet<>();

    public static void main(String[] args) throws IOException, ReflectiveOperationException {
        String readme = Files.readString(Path.of("README.md"));
        String source = read(example(readme));
        List<Integer> answers = run(source);
        check.due("answers of the example", answers.size(), shown.size());
        for (int i = 0; i < Math.min(answers.size(), due.size()); i++) {
            check.due("README.md: " + shown.get(i), answers.get(i), due.get(i));
        }
        check.same("calls that the example shows", called, new TreeSet<>(face.names()));
        callsTable(readme);
        constantsTable(readme);
        check.end();
    }

    /** The lines of all blocks of Java, for they go on with one another. */
    private static List<String> example(String readme) {
        List<String> lines = new ArrayList<>();
        Matcher block = Pattern.compile("```java\n(.*?)```", Pattern.DOTALL).matcher(readme);
        while (block.find()) {
            lines.addAll(block.group(1).lines().filter(line -> !line.isBlank()).toList());
        }
        return lines;
    }

    /** The example as a class that lists what its calls answered; what they are due to answer is noted. */
    private static String read(List<String> lines) {
        StringBuilder body = new StringBuilder();
        for (String line : lines) {
            Matcher call = CALL.matcher(line);
            boolean isCall = call.matches();
            check.due("README.md: '" + line + "' names its answer", isCall || line.equals(MAKES_FORM) ? 1 : 0, 1);
            if (!isCall) {
                body.append(line).append('\n');
                continue;
            }
            shown.add(line);
            due.add(number(call.group(4)));
            called.add(call.group(3));
            body.append(keepingAnswer(call.group(1), call.group(2)));
        }
        return "public final class " + NAME + " {\npublic static void run(java.util.List<Integer> answers) {\n"
                + body + "}\n}\n";
    }

    private static String keepingAnswer(String declares, String call) {
        if (declares == null) {
            return "answers.add(" + call + ");\n";
        }
        String variable = declares.split(" ")[1];
        return declares + call + ";\nanswers.add(" + variable + ");\n";
    }

    private static int number(String answer) {
        if (!Character.isLetter(answer.charAt(0))) {
            return Integer.parseInt(answer);
        }
        check.due("README.md: " + answer + " is a constant of the document", face.constants.containsKey(answer) ? 1 : 0, 1);
        return face.constants.getOrDefault(answer, 0);
    }

    private static List<Integer> run(String source) throws IOException, ReflectiveOperationException {
        Path place = Files.createTempDirectory("readme");
        Path file = Files.writeString(place.resolve(NAME + ".java"), source);
        List<Integer> answers = new ArrayList<>();
        try (URLClassLoader loader = new URLClassLoader(new URL[] {place.toUri().toURL()})) {
            int ended = ToolProvider.getSystemJavaCompiler().run(null, null, null,
                    "-cp", System.getProperty("java.class.path"), "-d", place.toString(), file.toString());
            check.due("README.md: the example compiles, javac ended with", ended, 0);
            if (ended == 0) {
                loader.loadClass(NAME).getMethod("run", List.class).invoke(null, answers);
            }
        } catch (InvocationTargetException e) {
            check.due("README.md: the example threw " + e.getCause(), 1, 0);
        } finally {
            Files.deleteIfExists(place.resolve(NAME + ".class"));
            Files.deleteIfExists(file);
            Files.deleteIfExists(place);
        }
        return answers;
    }

    private static void callsTable(String readme) {
        List<String> got = new ArrayList<>();
        Matcher row = Pattern.compile("\n\\| `(\\w+\\([^`]*\\))` \\|").matcher(readme);
        while (row.find()) {
            got.add(row.group(1));
        }
        List<String> want = new ArrayList<>();
        for (String call : face.calls) {
            want.add(call.replace("int ", ""));
        }
        check.same("calls in the table", got, want);
    }

    private static void constantsTable(String readme) {
        Map<String, Integer> got = new TreeMap<>();
        Matcher row = Pattern.compile("\n\\| `([A-Z]+)` \\| (-?\\d+) \\|").matcher(readme);
        while (row.find()) {
            got.put(row.group(1), Integer.parseInt(row.group(2)));
        }
        check.same("constants in the table", got, face.constants);
    }
}
