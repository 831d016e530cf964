import java.io.IOException;
import java.lang.reflect.Field;
import java.lang.reflect.Method;
import java.lang.reflect.Modifier;
import java.nio.file.Files;
import java.nio.file.Path;
import java.util.HashSet;
import java.util.Set;
import java.util.TreeSet;
import java.util.regex.Pattern;

/** The document's face and the rules of LANGUAGE.md that can be seen from the class and from its text. */
public final class LanguageTest {
    private static final String[] FACE = {"field 3", "part 4", "rule 3", "ring 1", "about 2", "hangs 2", "answer 3",
        "clear 2", "kept 2", "counts 2", "status 2", "done 1", "value 2", "copy 2", "join 4", "odds 1", "seal 2",
        "open 1", "sealed 2", "reach 1", "found 1", "tried 0", "told 1", "tell 1", "address 1", "trace 0"};
    private static final String[] CONSTANTS = {"UNKNOWN", "OUTSIDE", "STATE", "FULL", "SPENT", "NONE", "LOST"};
    private static final int[] NUMBERS = {-1, -2, -3, -4, -6, -9, -2000000000};
    private static final String[] BARRED = {"\\bthrow\\b", "\\btry\\b", "\\bcatch\\b", "\\bsynchronized\\b",
        "\\bassert\\b", "->", "::", "Exact\\b", "\\bprotected\\b", "\\bObject\\b", "\\bRandom\\b", "\\bSystem\\.(?!arraycopy)"};
    private static final Check check = new Check("LanguageTest");

    public static void main(String[] args) throws IOException, IllegalAccessException {
        methodsAreTheFace();
        constantsAreTheFace();
        classesInside();
        words();
        check.end();
    }

    private static void methodsAreTheFace() {
        Set<String> want = new TreeSet<>(Set.of(FACE));
        Set<String> got = new TreeSet<>();
        for (Method m : ThinkingForm.class.getDeclaredMethods()) {
            if (!Modifier.isPrivate(m.getModifiers())) {
                got.add(m.getName() + " " + m.getParameterCount());
                check.due(m + " is public, not static, and answers an int",
                        Modifier.isPublic(m.getModifiers()) && !Modifier.isStatic(m.getModifiers())
                        && m.getReturnType() == int.class ? 1 : 0, 1);
            }
        }
        check.due("the methods are " + want + ", not " + got, got.equals(want) ? 1 : 0, 1);
        check.due("public and final", ThinkingForm.class.getModifiers(), Modifier.PUBLIC | Modifier.FINAL);
        check.due("one constructor", ThinkingForm.class.getDeclaredConstructors().length, 1);
    }

    private static void constantsAreTheFace() throws IllegalAccessException {
        int open = 0;
        for (Field f : ThinkingForm.class.getDeclaredFields()) {
            if (!Modifier.isPrivate(f.getModifiers())) {
                open++;
                boolean known = false;
                for (int i = 0; i < CONSTANTS.length; i++) {
                    known |= f.getName().equals(CONSTANTS[i]) && f.getInt(null) == NUMBERS[i];
                }
                check.due(f + " is a constant of the document", known ? 1 : 0, 1);
            }
            if (Modifier.isStatic(f.getModifiers())) {
                check.due(f + " is final", Modifier.isFinal(f.getModifiers()) ? 1 : 0, 1);
            }
        }
        check.due("constants", open, CONSTANTS.length);
    }

    private static void classesInside() {
        Set<String> names = new HashSet<>();
        for (String call : FACE) {
            names.add(call.substring(0, call.indexOf(' ')));
        }
        Class<?>[] inside = ThinkingForm.class.getDeclaredClasses();
        check.due("some twelve classes", inside.length <= 12 ? 1 : 0, 1);
        for (Class<?> c : inside) {
            check.due(c + " is static", Modifier.isStatic(c.getModifiers()) ? 1 : 0, 1);
            check.due(c + " is not public", Modifier.isPublic(c.getModifiers()) ? 1 : 0, 0);
            check.due(c + " has some twenty fields", c.getDeclaredFields().length <= 20 ? 1 : 0, 1);
            for (Method m : c.getDeclaredMethods()) {
                check.due(m + " bears no name of the face", names.contains(m.getName()) ? 1 : 0, 0);
                check.due(m + " takes at most seven", m.getParameterCount() <= 7 ? 1 : 0, 1);
            }
        }
    }

    private static void words() throws IOException {
        String text = Files.readString(Path.of("src/main/java/ThinkingForm.java"));
        String code = text.replaceAll("(?s)/\\*.*?\\*/", "").replaceAll("//[^\n]*", "");
        for (String word : BARRED) {
            check.due("no " + word, Pattern.compile(word).matcher(code).find() ? 1 : 0, 0);
        }
        check.due("Arrays is the only import",
                code.replaceAll("import java\\.util\\.Arrays;", "").contains("import") ? 1 : 0, 0);
        check.due("no character beyond 127", text.chars().filter(c -> c > 127).count(), 0);
    }
}
