import java.io.IOException;
import java.lang.reflect.Field;
import java.lang.reflect.Method;
import java.lang.reflect.Modifier;
import java.nio.file.Files;
import java.nio.file.Path;
import java.util.HashSet;
import java.util.Set;
import java.util.regex.Pattern;

/** The rules of LANGUAGE.md that can be seen from the class and from its text. */
public final class LanguageTest {
    private static final String[] BARRED = {"\\bthrow\\b", "\\btry\\b", "\\bcatch\\b", "\\bsynchronized\\b",
        "\\bassert\\b", "->", "::", "Exact\\b", "\\bprotected\\b", "\\bObject\\b", "\\bRandom\\b", "\\bSystem\\.(?!arraycopy)"};
    private static final Set<String> NAMES = new HashSet<>(new Face().names());
    private static final Check check = new Check("LanguageTest");

    public static void main(String[] args) throws IOException {
        staticFieldsAreFinal(ThinkingForm.class);
        fieldsAndMethods(ThinkingForm.class);
        classesInside();
        words();
        check.end();
    }

    private static void staticFieldsAreFinal(Class<?> c) {
        for (Field f : c.getDeclaredFields()) {
            if (Modifier.isStatic(f.getModifiers())) {
                check.due(f + " is final", Modifier.isFinal(f.getModifiers()) ? 1 : 0, 1);
            }
        }
    }

    private static void classesInside() {
        Class<?>[] inside = ThinkingForm.class.getDeclaredClasses();
        check.due("some twelve classes", inside.length <= 12 ? 1 : 0, 1);
        for (Class<?> c : inside) {
            check.due(c + " is static", Modifier.isStatic(c.getModifiers()) ? 1 : 0, 1);
            check.due(c + " is not public", Modifier.isPublic(c.getModifiers()) ? 1 : 0, 0);
            staticFieldsAreFinal(c);
            fieldsAndMethods(c);
        }
    }

    private static void fieldsAndMethods(Class<?> c) {
        int fields = 0;
        for (Field f : c.getDeclaredFields()) {
            fields += Modifier.isStatic(f.getModifiers()) ? 0 : 1;
        }
        check.due(c + " has some twenty fields beside its constants", fields <= 20 ? 1 : 0, 1);
        for (Method m : c.getDeclaredMethods()) {
            if (!Modifier.isPublic(m.getModifiers())) {
                check.due(m + " bears no name of the face", NAMES.contains(m.getName()) ? 1 : 0, 0);
            }
            check.due(m + " takes at most seven", m.getParameterCount() <= 7 ? 1 : 0, 1);
        }
    }

    private static void words() throws IOException {
        String text = Files.readString(Path.of("src/main/java/ThinkingForm.java"));
        String code = text.replaceAll("(?s)/\\*.*?\\*/", "").replaceAll("//[^\n]*", "");
        for (String word : BARRED) {
            check.due("no " + word, Pattern.compile(word).matcher(code).find() ? 1 : 0, 0);
        }
        check.due("Arrays is the only import",
                code.replaceAll("import java\\.util\\.Arrays;", "").contains("import") ? 1 : 0, 0);
        check.due("no character beyond 127", text.chars().filter(c -> c > 127).count(), 0);
    }
}
