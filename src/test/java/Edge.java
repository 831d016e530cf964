/**
 * Checks boundaries under the words of the document that name them: what is quoted must stand in the
 * document, each quotation needs an answer checked under it, and in the end nothing may be left unquoted.
 */
final class Edge {
    static final int LOW = Integer.MIN_VALUE, TOP = Integer.MAX_VALUE, LOST = -2000000000;

    private final Check check;
    private final Document document = new Document();
    private String under = "";
    private int answers = 1;

    Edge(String name) {
        check = new Check(name);
    }

    /** The next answers are due by these words of a promise, or of what stands ahead of them all (0). */
    void of(int promise, String words) {
        endQuotation();
        under = (promise == 0 ? "Terms" : "Promise " + promise) + ", '" + words + "'";
        check.due(under + " stands in the document", document.quote(promise, words) ? 1 : 0, 1);
        answers = 0;
    }

    void due(String call, long got, long want) {
        answers++;
        check.due(under + ": " + call, got, want);
    }

    void end() {
        endQuotation();
        for (int place = 0; place < document.places(); place++) {
            check.due("words found at place " + place, document.isEmpty(place) ? 0 : 1, 1);
            String left = document.unquoted(place);
            check.due("not quoted at place " + place + ": '" + left + "'", left.isEmpty() ? 0 : 1, 0);
        }
        check.end();
    }

    private void endQuotation() {
        if (answers == 0) {
            check.due(under + " has answers under it", 0, 1);
        }
    }
}
