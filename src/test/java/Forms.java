/** Forms that several tests begin with. */
final class Forms {
    private Forms() {
    }

    /** So many fields of a kind with the span 0 .. 9, and parts of the same numbers that are their answers. */
    static ThinkingForm withAnswers(int many, int kind) {
        ThinkingForm x = new ThinkingForm();
        for (int f = 0; f < many; f++) {
            x.field(0, 9, kind);
            x.part(1, f, 0, 0);
        }
        return x;
    }

    /** A field behind others, shown by nothing, that hangs on all others: each has so many ways, none among them. */
    static ThinkingForm neverShown(int... ways) {
        ThinkingForm x = new ThinkingForm();
        int product = x.part(0, 0, 0, 0);
        for (int f = 0; f < ways.length; f++) {
            x.field(0, ways[f] - 2, 0);
            product = x.part(4, product, x.part(1, f, 0, 0), 0);
        }
        x.rule(x.field(0, 1, 0), 0, product);
        return x;
    }

    static int valueOf(ThinkingForm x, int kind, int a, int b, int c) {
        return x.value(0, x.part(kind, a, b, c));
    }
}
