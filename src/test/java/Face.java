import java.util.ArrayList;
import java.util.List;
import java.util.Map;
import java.util.TreeMap;
import java.util.regex.Matcher;
import java.util.regex.Pattern;

/** The public face as the document writes it out: the constants with their values, and the calls in their order. */
final class Face {
    private static final Pattern CONSTANT = Pattern.compile("([A-Z]+) = (-?\\d+)");
    private static final Pattern CALL = Pattern.compile("public (int \\w+\\([^)]*\\));");

    final Map<String, Integer> constants = new TreeMap<>();
    /** As the document writes them, such as 'int hangs(int f, int g)'. */
    final List<String> calls = new ArrayList<>();

    Face() {
        String block = Document.between(Document.text(), "## The public face", "## Terms");
        Matcher constant = CONSTANT.matcher(Document.between(block, "public static final int", ";"));
        while (constant.find()) {
            constants.put(constant.group(1), Integer.parseInt(constant.group(2)));
        }
        Matcher call = CALL.matcher(block);
        while (call.find()) {
            calls.add(call.group(1));
        }
    }

    List<String> names() {
        List<String> names = new ArrayList<>();
        for (String call : calls) {
            names.add(call.substring("int ".length(), call.indexOf('(')));
        }
        return names;
    }

    /** A call without the names of its parameters, such as 'int hangs(int, int)'. */
    static String types(String call) {
        return call.replaceAll("int \\w+(?=[,)])", "int");
    }
}
