import java.io.IOException;
import java.nio.file.Files;
import java.nio.file.Path;
import java.util.regex.Matcher;
import java.util.regex.Pattern;

/** The words of ../shared/DOC.md by place, and which of them a test has quoted. Place 0 is ahead of the promises. */
final class Document {
    private static final Path FILE = Path.of("../shared/DOC.md");
    private static final int PLACES = 28;

    private final String[] words = new String[PLACES];
    private final boolean[][] quoted = new boolean[PLACES][];

    Document() {
        String text = text();
        words[0] = plain(between(text, "An object is used", "## The public face") + between(text, "REFUSALS:", "Ahead of the calls"));
        Matcher promise = Pattern.compile("## Promise (\\d+): .*?\n\n`[^`]*`: (.*?)(?=\n## |$)", Pattern.DOTALL).matcher(text);
        while (promise.find()) {
            words[Integer.parseInt(promise.group(1))] = plain(promise.group(2));
        }
        for (int place = 0; place < PLACES; place++) {
            words[place] = words[place] == null ? "" : words[place];
            quoted[place] = new boolean[words[place].length()];
        }
    }

    /** Whether these words stand at this place; they are quoted from now on. */
    boolean quote(int place, String some) {
        int from = words[place].indexOf(some);
        boolean stands = from >= 0 && !some.isEmpty();
        while (from >= 0 && !some.isEmpty()) {
            for (int i = from; i < from + some.length(); i++) {
                quoted[place][i] = true;
            }
            from = words[place].indexOf(some, from + 1);
        }
        return stands;
    }

    int places() {
        return PLACES;
    }

    boolean isEmpty(int place) {
        return words[place].isEmpty();
    }

    /** What nobody has quoted of a place, with its letters and digits alone. */
    String unquoted(int place) {
        StringBuilder left = new StringBuilder();
        for (int i = 0; i < words[place].length(); i++) {
            char c = words[place].charAt(i);
            if (!quoted[place][i] && (Character.isLetterOrDigit(c) || c == ' ')) {
                left.append(c);
            }
        }
        return left.toString().trim();
    }

    static String text() {
        try {
            return Files.readString(FILE);
        } catch (IOException e) {
            throw new IllegalStateException("there is no " + FILE.toAbsolutePath(), e);
        }
    }

    static String between(String text, String from, String to) {
        int start = text.indexOf(from);
        int end = text.indexOf(to, Math.max(start, 0));
        return start < 0 || end < 0 ? "" : text.substring(start, end);
    }

    private static String plain(String text) {
        return text.replace("```text", " ").replace("```", " ").replaceAll("==== \\d ", " ").replaceAll("\\s+", " ").trim();
    }
}
