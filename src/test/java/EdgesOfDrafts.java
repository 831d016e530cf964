/** The boundaries that Terms name of drafts, and promises 8 to 17. */
final class EdgesOfDrafts {
    private static final int LOW = Edge.LOW, TOP = Edge.TOP, LOST = Edge.LOST;
    private static final int[] NO_DRAFTS = {LOW, -9, -1, 4, 5, TOP};

    private final Edge edge;

    EdgesOfDrafts(Edge edge) {
        this.edge = edge;
    }

    void run() {
        drafts();
        statusHiddenOrShown();
        statusNeeded();
        statusRight();
        doneByStatus();
        joiningRows();
        answer();
        answerHangers();
        answerRefused();
        answerLocked();
        clear();
        clearRefused();
        kept();
        keptLost();
        counts();
        status();
        done();
        value();
        copy();
        copyRefused();
        copyOfItselfLocked();
        join();
        joinRefused();
        odds();
    }

    private void drafts() {
        edge.of(0, "DRAFTS 0 .. 3, each with an ANSWER, or none (at first), of each ASKED FIELD.");
        ThinkingForm x = Forms.withAnswers(12, 0);
        for (int d = 0; d <= 3; d++) {
            for (int f = 0; f < 12; f += 11) {
                edge.due("none at first", x.kept(d, f), LOST);
                edge.due("one", x.answer(d, f, d + f / 4), 0);
            }
        }
        for (int d = 0; d <= 3; d++) {
            edge.due("each draft has its own of the first", x.kept(d, 0), d);
            edge.due("each draft has its own of the last", x.kept(d, 11), d + 2);
            edge.due("none between", x.told(10 + d), 2);
        }
        for (int none : NO_DRAFTS) {
            edge.due("there is no draft " + none, x.answer(none, 0, 1), -1);
        }
    }

    private void statusHiddenOrShown() {
        edge.of(0, "STATUS of a FIELD in a DRAFT: 0 it is not SHOWN; 1 SHOWN, without an ANSWER that COUNTS;");
        ThinkingForm x = new ThinkingForm();
        x.field(0, 9, 0);
        x.field(2, 5, 1);
        x.part(0, 0, 0, 0);
        x.part(0, 1, 0, 0);
        x.part(0, 6, 0, 0);
        edge.due("no SHOW", x.status(0, 0), 1);
        x.rule(0, 0, 0);
        edge.due("SHOW is 0", x.status(0, 0), 0);
        x.answer(0, 0, 4);
        x.rule(0, 1, 1);
        x.rule(0, 2, 0);
        edge.due("hidden, whatever it has, needs and is", x.status(0, 0), 0);
        edge.due("MADE without MAKE", x.status(0, 1), 1);
        x.rule(1, 3, 2);
        x.rule(1, 2, 0);
        edge.due("MADE, one out of its SPAN, whatever is right", x.status(0, 1), 1);
    }

    private void statusNeeded() {
        edge.of(0, "2 likewise, and the VALUE of its NEED is there and not 0;");
        ThinkingForm x = new ThinkingForm();
        x.field(-1, 1, 0);
        x.field(0, 9, 0);
        x.field(0, 9, 1);
        x.part(1, 0, 0, 0);
        x.rule(1, 1, 0);
        x.rule(2, 1, 0);
        int[][] rows = {{LOST, 1}, {-1, 2}, {0, 1}, {1, 2}};
        for (int[] row : rows) {
            if (row[0] != LOST) {
                x.answer(0, 0, row[0]);
            }
            edge.due("NEED of an ASKED one is " + row[0], x.status(0, 1), row[1]);
            edge.due("NEED of a MADE one is " + row[0], x.status(0, 2), row[1]);
        }
        x.answer(0, 1, 0);
        edge.due("it is there", x.status(0, 1), 3);
    }

    private void statusRight() {
        edge.of(0, "3 its ANSWER COUNTS; 4 likewise, and the VALUE of its RIGHT is there and 0.");
        ThinkingForm x = new ThinkingForm();
        x.field(-1, 1, 0);
        x.field(0, 9, 0);
        x.part(1, 0, 0, 0);
        x.answer(0, 1, 0);
        edge.due("no RIGHT", x.status(0, 1), 3);
        x.rule(1, 2, 0);
        int[][] rows = {{LOST, 3}, {-1, 3}, {0, 4}, {1, 3}};
        for (int[] row : rows) {
            if (row[0] != LOST) {
                x.answer(0, 0, row[0]);
            }
            edge.due("RIGHT is " + row[0], x.status(0, 1), row[1]);
        }
        x.answer(0, 0, 0);
        x.clear(0, 1);
        edge.due("RIGHT is 0, but it is not there", x.status(0, 1), 1);
    }

    private void doneByStatus() {
        edge.of(0, "A DRAFT is DONE, if none has STATUS 2 or 4.");
        edge.due("no field at all", new ThinkingForm().done(0), 1);
        for (int f = 0; f < 12; f += 11) {
            ThinkingForm x = Forms.withAnswers(12, 0);
            int zero = x.part(0, 0, 0, 0);
            int one = x.part(0, 1, 0, 0);
            edge.due("all have 1", x.done(0), 1);
            x.rule(f, 1, one);
            edge.due(f + " alone has 2", x.done(0), 0);
            x.answer(0, f, 0);
            edge.due(f + " alone has 3", x.done(0), 1);
            x.rule(f, 2, zero);
            edge.due(f + " alone has 4", x.done(0), 0);
            x.rule(f, 0, zero);
            edge.due(f + " alone has 0", x.done(0), 1);
        }
    }

    /** Every row of none and two answers for what was and what two made of it, none (LOST) among them. */
    private void joiningRows() {
        int[][] alike = {{LOST, LOST, LOST, LOST}, {LOST, 1, 1, 1}, {1, LOST, LOST, LOST}, {1, 1, 1, 1}, {1, 2, 2, 2}};
        edge.of(0, "JOINING of DRAFTS a (what was), b, c (what two made of it) into d: of each ASKED FIELD: if those of"
                + " b, c are alike (no ANSWER, too), it;");
        joinRows(alike, 0);
        int[][] asB = {{LOST, LOST, 1, 1}, {1, 1, LOST, LOST}, {1, 1, 2, 2}};
        edge.of(0, "else if that of b is as a's, that of c;");
        joinRows(asB, 0);
        int[][] asC = {{LOST, 1, LOST, 1}, {1, LOST, 1, LOST}, {1, 2, 1, 2}};
        edge.of(0, "else if that of c is as a's, that of b;");
        joinRows(asC, 0);
        int[][] atOdds = {{LOST, 1, 2, 1}, {1, LOST, 2, LOST}, {1, 2, LOST, 2}, {1, 2, 3, 2}, {0, 9, 5, 9}};
        edge.of(0, "else AT ODDS: that of b.");
        joinRows(atOdds, 1);
    }

    private void joinRows(int[][] rows, int odds) {
        for (int[] row : rows) {
            ThinkingForm x = Forms.withAnswers(1, 0);
            for (int d = 0; d <= 2; d++) {
                if (row[d] != LOST) {
                    x.answer(d, 0, row[d]);
                }
            }
            x.answer(3, 0, 7);
            String name = row[0] + ", " + row[1] + ", " + row[2];
            edge.due("at odds by " + name, x.join(0, 1, 2, 3), odds);
            edge.due("joined by " + name, x.kept(3, 0), row[3]);
            for (int d = 0; d <= 2; d++) {
                edge.due("what it was joined of stays", x.kept(d, 0), row[d]);
            }
        }
    }

    private void answer() {
        edge.of(8, "The ANSWER of an ASKED FIELD in a DRAFT becomes v:");
        ThinkingForm x = Forms.withAnswers(12, 0);
        for (int d = 0; d <= 3; d += 3) {
            for (int f = 0; f < 12; f += 11) {
                edge.due("lowest", x.answer(d, f, 0), 0);
                edge.due("it is so", x.kept(d, f), 0);
                edge.due("highest in its place", x.answer(d, f, 9), 0);
                edge.due("it is so", x.kept(d, f), 9);
                edge.due("the same again", x.answer(d, f, 9), 0);
            }
        }
        x.rule(5, 0, x.part(0, 0, 0, 0));
        edge.due("one that is hidden", x.answer(0, 5, 3), 0);
        edge.due("it is so", x.kept(0, 5), 3);
    }

    private void answerHangers() {
        edge.of(8, "how many FIELDS HANG ON it.");
        ThinkingForm x = Forms.withAnswers(12, 0);
        edge.due("none", x.answer(0, 0, 1), 0);
        for (int f = 1; f < 12; f++) {
            x.rule(f, 0, f - 1);
            edge.due("so many", x.answer(0, 0, 1), f);
        }
        edge.due("none on the last", x.answer(0, 11, 1), 0);
        x.rule(1, 0, -9);
        edge.due("none any more", x.answer(0, 0, 1), 0);
        x.rule(1, 1, 0);
        x.rule(1, 2, 0);
        edge.due("NEED and RIGHT do not hang", x.answer(0, 0, 1), 0);
    }

    private void answerRefused() {
        ThinkingForm x = new ThinkingForm();
        x.field(-3, 4, 0);
        x.field(-3, 4, 1);
        edge.of(8, "UNKNOWN;");
        for (int none : NO_DRAFTS) {
            edge.due("DRAFT " + none, x.answer(none, 0, 1), -1);
        }
        for (int none : new int[] {LOW, -9, -1, 2, 12, TOP}) {
            edge.due("FIELD " + none, x.answer(3, none, 1), -1);
        }
        edge.due("the last DRAFT", x.answer(3, 0, 1), 0);
        edge.of(8, "STATE: it is MADE;");
        for (int v : new int[] {LOW, -4, -3, 4, 5, TOP}) {
            edge.due("MADE, " + v, x.answer(0, 1, v), -3);
        }
        edge.of(8, "OUTSIDE: v is not in its SPAN;");
        int[][] rows = {{LOW, -2}, {LOST, -2}, {-4, -2}, {-3, 0}, {4, 0}, {5, -2}, {TOP, -2}};
        for (int[] row : rows) {
            edge.due("v is " + row[0], x.answer(0, 0, row[0]), row[1]);
        }
        edge.due("the last that was taken", x.kept(0, 0), 4);
    }

    private void answerLocked() {
        edge.of(8, "STATE: it is LOCKED.");
        ThinkingForm x = Forms.withAnswers(3, 0);
        x.answer(0, 0, 5);
        x.seal(0, 3);
        edge.due("another", x.answer(0, 0, 6), -3);
        // The line asks whether it is locked, and not what v is: the same answer is refused as well.
        edge.due("the same", x.answer(0, 0, 5), -3);
        edge.due("in the span's last place", x.answer(0, 0, 9), -3);
        edge.due("one beyond is OUTSIDE ahead of it", x.answer(0, 0, 10), -2);
        edge.due("not in the seal", x.answer(0, 2, 6), 0);
        edge.due("in another draft", x.answer(1, 0, 6), 0);
        edge.due("it stays", x.kept(0, 0), 5);
        x.open(0);
        edge.due("free again", x.answer(0, 0, 6), 0);
    }

    private void clear() {
        ThinkingForm x = Forms.withAnswers(12, 0);
        for (int d = 0; d <= 3; d += 3) {
            for (int f = 0; f < 12; f += 11) {
                edge.of(9, "0: it had none.");
                edge.due("at first", x.clear(d, f), 0);
                edge.due("none still", x.kept(d, f), LOST);
                edge.of(9, "It has none any more: 1;");
                x.answer(d, f, 0);
                edge.due("it had 0", x.clear(d, f), 1);
                edge.due("it has none", x.kept(d, f), LOST);
                edge.due("a second time", x.clear(d, f), 0);
            }
        }
        x.answer(0, 5, 3);
        x.rule(5, 0, x.part(0, 0, 0, 0));
        edge.due("one that is hidden", x.clear(0, 5), 1);
    }

    private void clearRefused() {
        ThinkingForm x = new ThinkingForm();
        x.field(0, 9, 0);
        x.field(0, 9, 1);
        edge.of(9, "UNKNOWN;");
        for (int none : NO_DRAFTS) {
            edge.due("DRAFT " + none, x.clear(none, 0), -1);
        }
        for (int none : new int[] {LOW, -9, -1, 2, 12, TOP}) {
            edge.due("FIELD " + none, x.clear(3, none), -1);
        }
        edge.due("the last DRAFT", x.clear(3, 0), 0);
        edge.of(9, "STATE: it is MADE, LOCKED.");
        edge.due("MADE", x.clear(0, 1), -3);
        x.answer(0, 0, 2);
        x.seal(0, 1);
        edge.due("LOCKED", x.clear(0, 0), -3);
        edge.due("it stays", x.kept(0, 0), 2);
        edge.due("in another draft it is not", x.clear(1, 0), 0);
        x.open(0);
        edge.due("free again", x.clear(0, 0), 1);
    }

    private void kept() {
        edge.of(10, "The ANSWER that is kept (SHOWN or not),");
        ThinkingForm x = Forms.withAnswers(12, 0);
        int zero = x.part(0, 0, 0, 0);
        for (int d = 0; d <= 3; d += 3) {
            x.answer(d, 11, 8);
            x.rule(11, 0, -9);
            edge.due("SHOWN", x.kept(d, 11), 8);
            x.rule(11, 0, zero);
            edge.due("hidden by 0", x.kept(d, 11), 8);
            x.rule(11, 0, 0);
            edge.due("hidden by MISSING", x.kept(d, 11), 8);
        }
        // Its MAKE alone is named, not its SPAN: what does not COUNT for that is told too.
        edge.of(10, "of a MADE one the VALUE of its MAKE.");
        ThinkingForm y = new ThinkingForm();
        y.field(-9, 9, 0);
        y.field(-2, 5, 1);
        y.part(1, 0, 0, 0);
        y.rule(1, 3, 0);
        for (int v : new int[] {-3, -2, 5, 6}) {
            y.answer(0, 0, v);
            edge.due("MAKE is " + v, y.kept(0, 1), v);
        }
        y.rule(1, 0, y.part(0, 0, 0, 0));
        edge.due("hidden", y.kept(0, 1), 6);
        y.rule(1, 3, y.part(0, 1000000, 0, 0));
        edge.due("as far as it goes", y.kept(0, 1), 1000000);
    }

    private void keptLost() {
        ThinkingForm x = new ThinkingForm();
        x.field(0, 9, 0);
        x.field(0, 9, 1);
        edge.of(10, "LOST: there is none,");
        edge.due("of an ASKED one", x.kept(0, 0), LOST);
        edge.due("of a MADE one without MAKE", x.kept(0, 1), LOST);
        x.rule(1, 3, x.part(1, 0, 0, 0));
        edge.due("of a MADE one whose MAKE is MISSING", x.kept(0, 1), LOST);
        x.answer(0, 0, 0);
        edge.due("of a MADE one whose MAKE is 0", x.kept(0, 1), 0);
        edge.of(10, "UNKNOWN.");
        for (int none : NO_DRAFTS) {
            edge.due("DRAFT " + none, x.kept(none, 0), LOST);
        }
        for (int none : new int[] {LOW, -9, -1, 2, 12, TOP}) {
            edge.due("FIELD " + none, x.kept(0, none), LOST);
        }
    }

    private void counts() {
        edge.of(11, "The ANSWER, if it COUNTS.");
        ThinkingForm x = Forms.withAnswers(12, 0);
        x.rule(11, 0, 0);
        x.answer(3, 0, 1);
        x.answer(3, 11, 0);
        edge.due("the last of the last", x.counts(3, 11), 0);
        edge.due("the first of the last", x.counts(3, 0), 1);
        edge.of(11, "LOST: it does not, UNKNOWN.");
        x.answer(3, 0, 0);
        edge.due("hidden", x.counts(3, 11), LOST);
        x.clear(3, 0);
        edge.due("hidden by MISSING", x.counts(3, 11), LOST);
        edge.due("none", x.counts(3, 0), LOST);
        for (int none : NO_DRAFTS) {
            edge.due("DRAFT " + none, x.counts(none, 0), LOST);
        }
        for (int none : new int[] {LOW, -9, -1, 12, 13, TOP}) {
            edge.due("FIELD " + none, x.counts(3, none), LOST);
        }
    }

    private void status() {
        edge.of(12, "STATUS. UNKNOWN.");
        ThinkingForm x = Forms.withAnswers(11, 0);
        x.answer(3, 10, 0);
        edge.due("the last of the last", x.status(3, 10), 3);
        edge.due("the first of the last", x.status(3, 0), 1);
        edge.due("the last of the first", x.status(0, 10), 1);
        for (int none : NO_DRAFTS) {
            edge.due("DRAFT " + none, x.status(none, 0), -1);
        }
        for (int none : new int[] {LOW, -9, -1, 11, 12, TOP}) {
            edge.due("FIELD " + none, x.status(3, none), -1);
        }
    }

    private void done() {
        edge.of(13, "Whether a DRAFT is DONE: 1, 0.");
        ThinkingForm x = Forms.withAnswers(1, 0);
        x.rule(0, 1, x.part(0, 1, 0, 0));
        for (int d = 0; d <= 3; d++) {
            edge.due("needed in " + d, x.done(d), 0);
            x.answer(d, 0, 0);
            edge.due("there in " + d, x.done(d), 1);
        }
        edge.of(13, "UNKNOWN.");
        for (int none : NO_DRAFTS) {
            edge.due("DRAFT " + none, x.done(none), -1);
        }
    }

    private void value() {
        edge.of(14, "The VALUE of a PART in a DRAFT.");
        ThinkingForm x = Forms.withAnswers(1, 0);
        while (x.told(1) < 49) {
            x.part(1, 0, 0, 0);
        }
        for (int d = 0; d <= 3; d++) {
            x.answer(d, 0, d);
        }
        for (int d = 0; d <= 3; d++) {
            edge.due("the first in " + d, x.value(d, 0), d);
            edge.due("the last in " + d, x.value(d, 48), d);
        }
        edge.of(14, "LOST: it is MISSING,");
        x.clear(3, 0);
        edge.due("the first", x.value(3, 0), LOST);
        edge.due("the last", x.value(3, 48), LOST);
        edge.of(14, "UNKNOWN.");
        for (int none : NO_DRAFTS) {
            edge.due("DRAFT " + none, x.value(none, 0), LOST);
        }
        for (int none : new int[] {LOW, -9, -1, 49, 50, TOP}) {
            edge.due("PART " + none, x.value(0, none), LOST);
        }
    }

    private void copy() {
        ThinkingForm x = Forms.withAnswers(12, 0);
        edge.of(15, "how many ANSWERS were other.");
        edge.due("none into none", x.copy(0, 3), 0);
        for (int f = 0; f < 12; f++) {
            x.answer(0, f, f % 9);
        }
        edge.due("all into none", x.copy(0, 3), 12);
        edge.due("again", x.copy(0, 3), 0);
        x.answer(3, 11, 9);
        x.clear(3, 0);
        edge.due("one is another, one is none", x.copy(0, 3), 2);
        edge.due("none into all", x.copy(1, 3), 12);
        edge.due("of itself", x.copy(0, 0), 0);
        edge.of(15, "DRAFT d becomes as a is:");
        x.copy(0, 2);
        for (int f = 0; f < 12; f++) {
            edge.due("copied " + f, x.kept(2, f), f % 9);
            edge.due("copied none " + f, x.kept(3, f), LOST);
            edge.due("a stays " + f, x.kept(0, f), f % 9);
        }
        x.answer(2, 0, 5);
        edge.due("a does not follow d", x.kept(0, 0), 0);
        x.answer(0, 1, 6);
        edge.due("d does not follow a", x.kept(2, 1), 1);
    }

    private void copyRefused() {
        ThinkingForm x = Forms.withAnswers(2, 0);
        x.field(0, 9, 1);
        x.answer(0, 0, 1);
        edge.of(15, "UNKNOWN;");
        for (int none : NO_DRAFTS) {
            edge.due("a is " + none, x.copy(none, 3), -1);
            edge.due("d is " + none, x.copy(0, none), -1);
        }
        edge.due("the last", x.copy(3, 2), 0);
        edge.of(15, "STATE: one in d is LOCKED.");
        x.seal(3, 4);
        edge.due("a MADE one alone is not LOCKED", x.copy(0, 3), 1);
        x.seal(3, 2);
        edge.due("one that would stay as it is", x.copy(0, 3), -3);
        edge.due("one that would become other", x.copy(1, 3), -3);
        edge.due("d stays", x.kept(3, 0), 1);
        edge.due("one in a is LOCKED, none in d", x.copy(3, 1), 1);
        x.open(1);
        edge.due("free again", x.copy(2, 3), 1);
    }

    private void copyOfItselfLocked() {
        // The line looks at what is LOCKED in d, and not at whether anything would become other.
        ThinkingForm x = Forms.withAnswers(1, 0);
        x.seal(3, 1);
        edge.of(15, "STATE: one in d is LOCKED.");
        edge.due("of itself", x.copy(3, 3), -3);
        edge.due("of another that is alike", x.copy(0, 3), -3);
    }

    private void join() {
        edge.of(16, "JOINING (d may be any of the others):");
        for (int d = 0; d <= 3; d++) {
            ThinkingForm x = Forms.withAnswers(4, 0);
            int[][] rows = {{1, 1, 2, 2}, {1, 2, 1, 2}, {1, 2, 2, 2}, {1, 2, 3, 2}};
            for (int f = 0; f < 4; f++) {
                for (int from = 0; from <= 2; from++) {
                    x.answer(from, f, rows[f][from]);
                }
            }
            edge.due("into " + d, x.join(0, 1, 2, d), 1);
            for (int f = 0; f < 4; f++) {
                edge.due("joined into " + d, x.kept(d, f), rows[f][3]);
            }
            edge.due("with itself", x.join(d, d, d, d), 0);
        }
        edge.of(16, "how many FIELDS are AT ODDS.");
        for (int many = 0; many <= 12; many++) {
            ThinkingForm x = Forms.withAnswers(12, 0);
            for (int f = 0; f < 12; f++) {
                x.answer(1, f, 1);
                x.answer(2, f, f < many ? 2 : 1);
            }
            edge.due("so many", x.join(0, 1, 2, 3), many);
        }
        edge.due("without a field", new ThinkingForm().join(0, 1, 2, 3), 0);
    }

    private void joinRefused() {
        ThinkingForm x = Forms.withAnswers(2, 0);
        x.field(0, 9, 1);
        x.answer(1, 0, 1);
        x.answer(2, 0, 2);
        edge.of(16, "UNKNOWN;");
        for (int none : NO_DRAFTS) {
            edge.due("a is " + none, x.join(none, 1, 2, 3), -1);
            edge.due("b is " + none, x.join(0, none, 2, 3), -1);
            edge.due("c is " + none, x.join(0, 1, none, 3), -1);
            edge.due("d is " + none, x.join(0, 1, 2, none), -1);
        }
        edge.due("the last of all", x.join(3, 3, 3, 3), 0);
        edge.of(16, "STATE: one in d is LOCKED.");
        x.seal(3, 4);
        edge.due("a MADE one alone is not LOCKED", x.join(0, 1, 2, 3), 1);
        x.seal(3, 2);
        edge.due("LOCKED", x.join(0, 2, 1, 3), -3);
        edge.due("LOCKED, though all would stay", x.join(3, 3, 3, 3), -3);
        edge.due("d stays", x.kept(3, 0), 1);
        edge.due("the latest joining stays", x.told(5), 1);
        edge.due("one in a, b, c is LOCKED, none in d", x.join(3, 3, 3, 0), 0);
        x.open(1);
        edge.due("free again", x.join(2, 2, 2, 3), 0);
    }

    private void odds() {
        edge.of(17, "The i-th FIELD, by number, that was AT ODDS in the latest JOINING.");
        ThinkingForm x = Forms.withAnswers(12, 0);
        for (int f = 0; f < 12; f++) {
            x.answer(1, f, 1);
            x.answer(2, f, f == 0 || f == 7 || f == 11 ? 2 : 1);
        }
        edge.due("before any", x.odds(0), -1);
        x.join(0, 1, 2, 3);
        int[] fields = {0, 7, 11};
        for (int i = 0; i < 3; i++) {
            edge.due("place " + i, x.odds(i), fields[i]);
        }
        edge.of(17, "UNKNOWN.");
        for (int none : new int[] {LOW, -9, -1, 3, 12, TOP}) {
            edge.due("place " + none, x.odds(none), -1);
        }
        edge.of(17, "in the latest JOINING.");
        x.clear(2, 0);
        x.join(0, 1, 2, 4);
        x.answer(1, 7, 2);
        edge.due("changes and refused joinings leave it", x.odds(1), 7);
        x.join(0, 1, 2, 3);
        edge.due("a later one", x.odds(0), 11);
        edge.due("a later one ends earlier", x.odds(1), -1);
        x.join(0, 0, 0, 3);
        edge.due("one without odds", x.odds(0), -1);
        for (int f = 0; f < 12; f++) {
            x.answer(1, f, 1);
            x.answer(2, f, 2);
        }
        x.join(0, 1, 2, 3);
        edge.due("the twelfth of twelve", x.odds(11), 11);
        edge.due("no thirteenth", x.odds(12), -1);
    }
}
