/** The boundaries that Terms name of seals, and promises 18 to 20. */
final class EdgesOfSeals {
    private static final int LOW = Edge.LOW, TOP = Edge.TOP, LOST = Edge.LOST;

    private final Edge edge;

    EdgesOfSeals(Edge edge) {
        this.edge = edge;
    }

    void run() {
        sealsEver();
        keeps();
        lockedInItsDraft();
        lockedWithoutAnAnswer();
        lockedByHandAlone();
        notPutInPlaceOf();
        holds();
        seal();
        sealOutside();
        sealFull();
        open();
        sealedDraftAndFields();
        sealedAnswer();
        sealedStatus();
        sealedRefused();
    }

    private void sealsEver() {
        edge.of(0, "SEALS, 6 ever, numbered as they come: of a DRAFT and a set of FIELDS (bits);");
        ThinkingForm x = Forms.withAnswers(12, 0);
        for (int s = 0; s < 6; s++) {
            edge.due("one that is refused takes no number", x.seal(0, 0), -2);
            edge.due("seal " + s, x.seal(s % 4, 1 << s * 2), s);
        }
        edge.due("a seventh", x.seal(0, 1), -4);
        for (int s = 0; s < 6; s++) {
            edge.due("draft of " + s, x.sealed(s, 0), s % 4);
            edge.due("fields of " + s, x.sealed(s, 1), 1 << s * 2);
        }
        edge.due("there is no seventh", x.sealed(6, 0), -1);
    }

    private void keeps() {
        edge.of(0, "they keep the ANSWERS (of ASKED ones) and STATUS that these FIELDS have then.");
        ThinkingForm x = new ThinkingForm();
        x.field(0, 9, 0);
        x.field(0, 9, 0);
        x.field(0, 9, 1);
        int one = x.part(0, 1, 0, 0);
        x.rule(2, 3, one);
        x.answer(3, 0, 9);
        x.seal(3, 7);
        x.open(0);
        x.answer(3, 0, 0);
        x.answer(3, 1, 4);
        x.rule(2, 0, x.part(0, 0, 0, 0));
        int[] answers = {9, LOST, LOST};
        int[] statuses = {3, 1, 3};
        for (int f = 0; f < 3; f++) {
            edge.due("the answer then of " + f, x.sealed(0, 10 + f), answers[f]);
            edge.due("the status then of " + f, x.sealed(0, 30 + f), statuses[f]);
        }
    }

    private void lockedInItsDraft() {
        edge.of(0, "The ANSWER of an ASKED FIELD in a SEAL of its DRAFT");
        ThinkingForm x = Forms.withAnswers(12, 0);
        for (int d = 0; d <= 3; d++) {
            for (int f = 0; f < 12; f++) {
                x.answer(d, f, 1);
            }
        }
        x.seal(3, 1 | 1 << 11);
        for (int d = 0; d <= 3; d++) {
            for (int f = 0; f < 12; f++) {
                boolean locked = d == 3 && (f == 0 || f == 11);
                edge.due("field " + f + " in " + d, x.answer(d, f, 2), locked ? -3 : 0);
            }
        }
    }

    private void lockedWithoutAnAnswer() {
        // A reading: the words name the field in the seal and ask for no answer in it, so that none is locked as well.
        edge.of(0, "The ANSWER of an ASKED FIELD in a SEAL of its DRAFT");
        ThinkingForm x = Forms.withAnswers(1, 0);
        x.seal(0, 1);
        edge.due("none", x.answer(0, 0, 1), -3);
        edge.due("none, nothing to clear", x.clear(0, 0), -3);
        edge.due("none, copied into", x.copy(1, 0), -3);
        edge.due("none, joined into", x.join(1, 1, 1, 0), -3);
        edge.due("none still", x.kept(0, 0), LOST);
    }

    private void lockedByHandAlone() {
        edge.of(0, "that is not BROKEN (by hand) is LOCKED: it can not be changed,");
        ThinkingForm x = Forms.withAnswers(2, 0);
        x.rule(1, 0, 0);
        x.answer(0, 0, 1);
        x.answer(0, 1, 1);
        x.seal(0, 2);
        x.answer(0, 0, 0);
        edge.due("it holds no more", x.sealed(0, 3), 0);
        edge.due("that is not by hand: LOCKED still", x.answer(0, 1, 2), -3);
        edge.due("LOCKED still", x.clear(0, 1), -3);
        x.seal(0, 2);
        x.open(0);
        edge.due("LOCKED by the other", x.answer(0, 1, 2), -3);
        x.open(1);
        edge.due("both are broken", x.answer(0, 1, 2), 0);
        x.seal(0, 2);
        edge.due("LOCKED by a third", x.clear(0, 1), -3);
    }

    private void notPutInPlaceOf() {
        edge.of(0, "nor the DRAFT be put in place of.");
        ThinkingForm x = Forms.withAnswers(2, 0);
        x.answer(0, 0, 1);
        x.answer(1, 1, 2);
        x.seal(0, 1);
        edge.due("copy", x.copy(1, 0), -3);
        edge.due("join", x.join(1, 1, 1, 0), -3);
        edge.due("what is not LOCKED stays too", x.kept(0, 1), LOST);
        edge.due("that is changed alone", x.answer(0, 1, 3), 0);
        x.open(0);
        edge.due("copy, broken", x.copy(1, 0), 2);
    }

    private void holds() {
        edge.of(0, "A SEAL HOLDS, if it is not BROKEN, and its FIELDS have all the STATUS that it keeps.");
        ThinkingForm x = Forms.withAnswers(12, 0);
        int zero = x.part(0, 0, 0, 0);
        x.seal(0, 1 | 1 << 11);
        edge.due("at once", x.sealed(0, 3), 1);
        for (int f = 0; f < 12; f++) {
            x.rule(f, 0, zero);
            edge.due("the status of " + f + " alone is another", x.sealed(0, 3), f == 0 || f == 11 ? 0 : 1);
            x.rule(f, 0, -9);
            edge.due("as it was", x.sealed(0, 3), 1);
        }
        x.answer(1, 0, 1);
        edge.due("in another draft", x.sealed(0, 3), 1);
        x.open(0);
        edge.due("BROKEN, all have it", x.sealed(0, 3), 0);
    }

    private void seal() {
        edge.of(18, "A SEAL: its number.");
        ThinkingForm x = Forms.withAnswers(2, 0);
        edge.due("the first", x.seal(0, 3), 0);
        edge.due("the same once more", x.seal(0, 3), 1);
        x.open(1);
        edge.due("behind a broken one", x.seal(3, 3), 2);
        edge.of(18, "UNKNOWN: DRAFT;");
        for (int none : new int[] {LOW, -9, -1, 4, TOP}) {
            edge.due("DRAFT " + none, x.seal(none, 1), -1);
        }
        edge.due("three", x.told(3), 3);
    }

    private void sealOutside() {
        edge.of(18, "OUTSIDE: fields is not 1 .. a bit for each FIELD that there is;");
        ThinkingForm x = new ThinkingForm();
        edge.due("1, no field", x.seal(0, 1), -2);
        edge.due("0, no field", x.seal(0, 0), -2);
        for (int many = 1; many <= 12; many++) {
            ThinkingForm y = Forms.withAnswers(many, 0);
            edge.due("a bit more than " + many, y.seal(0, 1 << many), -2);
            edge.due("bits of " + many + " and one more", y.seal(0, (2 << many) - 1), -2);
            edge.due("all of " + many, y.seal(0, (1 << many) - 1), 0);
            edge.due("the last of " + many, y.seal(0, 1 << many - 1), 1);
            edge.due("the first of " + many, y.seal(0, 1), 2);
            for (int wild : new int[] {LOW, LOW + 1, -2, -1, 0, 1 << 30, TOP}) {
                edge.due("fields " + wild + " of " + many, y.seal(0, wild), -2);
            }
        }
    }

    private void sealFull() {
        edge.of(18, "FULL.");
        ThinkingForm x = Forms.withAnswers(1, 0);
        for (int s = 0; s < 6; s++) {
            edge.due("seal " + s, x.seal(3, 1), s);
        }
        edge.due("a seventh", x.seal(3, 1), -4);
        for (int s = 0; s < 6; s++) {
            x.open(s);
        }
        edge.due("a seventh, though all are broken", x.seal(3, 1), -4);
        edge.due("six", x.told(3), 6);
    }

    private void open() {
        ThinkingForm x = Forms.withAnswers(1, 0);
        for (int s = 0; s < 6; s++) {
            x.seal(0, 1);
        }
        for (int s = 0; s < 6; s += 5) {
            edge.of(19, "A SEAL is BROKEN: 1;");
            edge.due("before", x.sealed(s, 2), 0);
            edge.due("opened", x.open(s), 1);
            edge.due("after", x.sealed(s, 2), 1);
            edge.of(19, "0: it was.");
            edge.due("once more", x.open(s), 0);
            edge.due("after that", x.sealed(s, 2), 1);
        }
        edge.due("others are not", x.told(4), 4);
        edge.of(19, "UNKNOWN.");
        for (int none : new int[] {LOW, -9, -1, 6, TOP}) {
            edge.due("SEAL " + none, x.open(none), -1);
        }
        edge.due("a seal that is not yet", Forms.withAnswers(1, 0).open(0), -1);
    }

    private void sealedDraftAndFields() {
        edge.of(20, "Of a SEAL: 0 its DRAFT, 1 its FIELDS,");
        ThinkingForm x = Forms.withAnswers(12, 0);
        x.seal(3, 4095);
        x.seal(0, 1);
        edge.due("the last draft", x.sealed(0, 0), 3);
        edge.due("all fields", x.sealed(0, 1), 4095);
        edge.due("the first draft", x.sealed(1, 0), 0);
        edge.due("the first field", x.sealed(1, 1), 1);
        edge.of(20, "2 whether it is BROKEN (1, 0), 3 whether it HOLDS;");
        edge.due("not broken", x.sealed(0, 2), 0);
        edge.due("holds", x.sealed(0, 3), 1);
        x.rule(11, 0, x.part(0, 0, 0, 0));
        edge.due("not broken by another status", x.sealed(0, 2), 0);
        edge.due("holds not", x.sealed(0, 3), 0);
        x.rule(11, 0, -9);
        edge.due("holds again", x.sealed(0, 3), 1);
        x.open(0);
        edge.due("broken", x.sealed(0, 2), 1);
        edge.due("a broken one holds not", x.sealed(0, 3), 0);
        edge.due("the other does", x.sealed(1, 3), 1);
    }

    /** Fields 0, 11 are answered and sealed; 1 is sealed without an answer, 2 is MADE and sealed, others are not. */
    private ThinkingForm sealedForm() {
        ThinkingForm x = new ThinkingForm();
        for (int f = 0; f < 12; f++) {
            x.field(-1000, 1000, f == 2 ? 1 : 0);
        }
        x.rule(2, 3, x.part(0, 5, 0, 0));
        x.answer(0, 0, -1000);
        x.answer(0, 11, 1000);
        x.answer(0, 4, 8);
        x.seal(0, 1 | 2 | 4 | 1 << 11);
        return x;
    }

    private void sealedAnswer() {
        ThinkingForm x = sealedForm();
        edge.of(20, "10 and f: the ANSWER that it keeps of a FIELD");
        edge.due("the first", x.sealed(0, 10), -1000);
        edge.due("the last", x.sealed(0, 21), 1000);
        edge.of(20, "(LOST: none, a MADE one, one that it has not);");
        edge.due("none", x.sealed(0, 11), LOST);
        edge.due("a MADE one", x.sealed(0, 12), LOST);
        edge.due("one that it has not", x.sealed(0, 13), LOST);
        edge.due("one that it has not, though it is answered", x.sealed(0, 14), LOST);
    }

    private void sealedStatus() {
        ThinkingForm x = sealedForm();
        edge.of(20, "30 and f: the STATUS that it keeps");
        int[] sealed = {0, 1, 2, 11};
        int[] statuses = {3, 1, 3, 3};
        for (int i = 0; i < 4; i++) {
            edge.due("of " + sealed[i], x.sealed(0, 30 + sealed[i]), statuses[i]);
        }
        for (int kept = 0; kept <= 4; kept++) {
            edge.due("status " + kept, withStatus(kept).sealed(0, 30), kept);
        }
        edge.of(20, "(NONE: one that it has not).");
        for (int f = 3; f < 11; f++) {
            edge.due("one that it has not", x.sealed(0, 30 + f), -9);
        }
        ThinkingForm y = Forms.withAnswers(1, 0);
        y.seal(0, 1);
        edge.due("not there yet", y.sealed(0, 31), -2);
        y.field(0, 9, 0);
        y.answer(0, 1, 3);
        edge.due("there since, one that it has not", y.sealed(0, 31), -9);
        edge.due("there since, nor its answer", y.sealed(0, 11), LOST);
        edge.due("it holds", y.sealed(0, 3), 1);
    }

    private ThinkingForm withStatus(int status) {
        ThinkingForm x = Forms.withAnswers(1, 0);
        int zero = x.part(0, 0, 0, 0);
        int one = x.part(0, 1, 0, 0);
        x.rule(0, 0, status == 0 ? zero : one);
        x.rule(0, 1, status == 2 ? one : zero);
        x.rule(0, 2, status == 4 ? zero : one);
        if (status >= 3) {
            x.answer(0, 0, 1);
        }
        x.seal(0, 1);
        return x;
    }

    private void sealedRefused() {
        ThinkingForm x = sealedForm();
        edge.of(20, "UNKNOWN;");
        for (int none : new int[] {LOW, -9, -1, 1, 6, TOP}) {
            edge.due("SEAL " + none, x.sealed(none, 0), -1);
            edge.due("SEAL " + none + ", what 4", x.sealed(none, 4), -1);
        }
        edge.of(20, "OUTSIDE: other ones, no such FIELD.");
        for (int other : new int[] {LOW, LOW + 9, LOW + 10, LOW + 21, LOW + 29, LOW + 30, -1, 4, 9, 22, 29, 42, TOP}) {
            edge.due("what " + other, x.sealed(0, other), -2);
        }
        ThinkingForm y = Forms.withAnswers(3, 0);
        y.seal(0, 1);
        edge.due("the last FIELD's answer", y.sealed(0, 12), LOST);
        edge.due("no such FIELD's answer", y.sealed(0, 13), -2);
        edge.due("the last FIELD's status", y.sealed(0, 32), -9);
        edge.due("no such FIELD's status", y.sealed(0, 33), -2);
    }
}
