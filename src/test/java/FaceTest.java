import java.io.IOException;
import java.lang.reflect.Constructor;
import java.lang.reflect.Field;
import java.lang.reflect.Method;
import java.lang.reflect.Modifier;
import java.nio.file.Files;
import java.nio.file.Path;
import java.util.ArrayList;
import java.util.Arrays;
import java.util.List;
import java.util.Map;
import java.util.TreeMap;
import java.util.TreeSet;
import java.util.regex.Matcher;
import java.util.regex.Pattern;

/** The class shows what 'The public face' of the document writes out, and nothing else. */
public final class FaceTest {
    private static final Check check = new Check("FaceTest");
    private static final Face face = new Face();

    public static void main(String[] args) throws IOException, IllegalAccessException {
        documentIsReadWhole();
        classAndConstructor();
        calls();
        constants();
        promisesAreOfTheFace();
        groupsStandAheadOfTheirCalls();
        check.end();
    }

    private static void documentIsReadWhole() {
        check.due("calls that the document's face has", face.calls.size(), 26);
        check.due("constants that the document's face has", face.constants.size(), 7);
    }

    private static void classAndConstructor() {
        check.due("public and final", ThinkingForm.class.getModifiers(), Modifier.PUBLIC | Modifier.FINAL);
        check.due("it extends nothing", ThinkingForm.class.getSuperclass() == Object.class ? 1 : 0, 1);
        check.due("it implements nothing", ThinkingForm.class.getInterfaces().length, 0);
        Constructor<?>[] all = ThinkingForm.class.getDeclaredConstructors();
        check.due("constructors", all.length, 1);
        check.due("the constructor is public alone", all[0].getModifiers(), Modifier.PUBLIC);
        check.due("the constructor takes", all[0].getParameterCount(), 0);
        check.due("the constructor declares exceptions", all[0].getExceptionTypes().length, 0);
    }

    private static void calls() {
        TreeSet<String> want = new TreeSet<>();
        for (String call : face.calls) {
            want.add("public " + Face.types(call));
        }
        TreeSet<String> got = new TreeSet<>();
        for (Method m : ThinkingForm.class.getDeclaredMethods()) {
            if (!Modifier.isPrivate(m.getModifiers())) {
                got.add(written(m));
            }
        }
        check.same("calls", got, want);
    }

    private static String written(Method m) {
        String types = Arrays.toString(m.getParameterTypes()).replace('[', '(').replace(']', ')');
        String thrown = m.getExceptionTypes().length == 0 ? "" : " throws " + Arrays.toString(m.getExceptionTypes());
        return Modifier.toString(m.getModifiers()) + " " + m.getReturnType() + " " + m.getName() + types + thrown;
    }

    private static void constants() throws IllegalAccessException {
        Map<String, Integer> got = new TreeMap<>();
        for (Field f : ThinkingForm.class.getDeclaredFields()) {
            if (!Modifier.isPrivate(f.getModifiers())) {
                check.due(f + " is public, static, final", f.getModifiers(),
                        Modifier.PUBLIC | Modifier.STATIC | Modifier.FINAL);
                check.due(f + " is an int", f.getType() == int.class ? 1 : 0, 1);
                got.put(f.getName(), f.getInt(null));
            }
        }
        check.same("constants", got, face.constants);
    }

    /** So that no promise is of a call that the face has not, and none of its calls is without a promise. */
    private static void promisesAreOfTheFace() {
        List<String> got = new ArrayList<>();
        Matcher promise = Pattern.compile("## Promise (\\d+): (.*)\n\n`([^`]*)`: ").matcher(Document.text());
        while (promise.find()) {
            got.add(promise.group(1) + " " + promise.group(2) + " " + promise.group(3));
        }
        List<String> want = new ArrayList<>();
        want.add("1 A new object ThinkingForm()");
        List<String> names = face.names();
        for (int i = 0; i < names.size(); i++) {
            want.add(i + 2 + " " + names.get(i) + " " + face.calls.get(i));
        }
        check.same("promises", got, want);
    }

    private static void groupsStandAheadOfTheirCalls() throws IOException {
        String source = Files.readString(Path.of("src/main/java/ThinkingForm.java"));
        List<String> want = new ArrayList<>();
        Matcher group = Pattern.compile("Ahead of the calls (.*) the interface says: (---- .*)\\.").matcher(Document.text());
        while (group.find()) {
            want.add(group.group(2));
            want.addAll(List.of(group.group(1).replace("`", "").split(", ")));
        }
        List<String> got = new ArrayList<>();
        Matcher line = Pattern.compile("\n    (?:// (---- \\d .*)|public int (\\w+)\\()").matcher(source);
        while (line.find()) {
            got.add(line.group(1) == null ? line.group(2) : line.group(1));
        }
        check.same("what stands ahead of which calls", got, want);
    }
}
