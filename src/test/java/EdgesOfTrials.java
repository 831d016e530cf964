import java.math.BigInteger;

/** The boundaries that Terms name of trials and tellings, promises 21 to 27, and the bound on calls. */
final class EdgesOfTrials {
    private static final int LOW = Edge.LOW, TOP = Edge.TOP, LOST = Edge.LOST;

    private final Edge edge;

    EdgesOfTrials(Edge edge) {
        this.edge = edge;
    }

    void run() {
        eachRow();
        whatTurns();
        allOthersNone();
        tillOneShows();
        spent();
        spentWhereNumbersWrap();
        reach();
        reachRefused();
        found();
        foundLost();
        tried();
        told();
        toldAnswers();
        toldOutside();
        traceWraps();
        bodiesAsTheyBegin();
        tellAsked();
        tellMade();
        tellNeeded();
        addressLent();
        addressMade();
        tellAndAddressRefused();
        calls512();
        dearCalls512();
    }

    /** Field 2 is shown by the one row where fields 1, 3 are so (LOST: none); 0 is MADE, 4 has nothing to do with it. */
    private ThinkingForm shownBy(int one, int three) {
        ThinkingForm x = new ThinkingForm();
        x.field(0, 9, 1);
        x.field(-1, 1, 0);
        x.field(0, 9, 0);
        x.field(5, 6, 0);
        x.field(0, 9, 0);
        x.rule(2, 0, x.part(7, isSo(x, 3, three), isSo(x, 1, one), 0));
        return x;
    }

    private int isSo(ThinkingForm x, int f, int v) {
        if (v == LOST) {
            return x.part(9, x.part(10, f, 0, 0), 0, 0);
        }
        return x.part(5, x.part(1, f, 0, 0), x.part(0, v, 0, 0), 0);
    }

    private void eachRow() {
        edge.of(0, "A TRIAL for a FIELD: of the ASKED FIELDS on which it HANGS, by number, each may have no ANSWER or one"
                + " of its SPAN (rising, behind none);");
        int[] ones = {LOST, -1, 0, 1};
        int[] threes = {LOST, 5, 6};
        int row = 0;
        for (int one : ones) {
            for (int three : threes) {
                row++;
                ThinkingForm x = shownBy(one, three);
                edge.due("the row " + one + ", " + three, x.reach(2), 1);
                edge.due("is the one of number", x.tried(), row);
                edge.due("field 1 in it", x.found(1), one);
                edge.due("field 3 in it", x.found(3), three);
            }
        }
        lastFieldsTurn();
        ThinkingForm below = shownBy(-2, 5);
        edge.due("one below the span", below.reach(2), 0);
        ThinkingForm above = shownBy(1, 7);
        edge.due("one above the span", above.reach(2), 0);
        edge.due("after all rows", above.tried(), 12);
    }

    /** Field 5 is shown by field 11 less field 6 being 9. */
    private void lastFieldsTurn() {
        ThinkingForm x = Forms.withAnswers(12, 0);
        x.rule(5, 0, x.part(5, x.part(3, 11, 6, 0), x.part(0, 9, 0, 0), 0));
        edge.due("9 less 0", x.reach(5), 1);
        edge.due("none with eleven, 0 with eleven", x.tried(), 22);
        edge.due("field 6 in it", x.found(6), 0);
        edge.due("field 11 in it", x.found(11), 9);
    }

    private void whatTurns() {
        // It HANGS ON what its SHOW and its MAKE are of, so that a MAKE has rows of its own.
        edge.of(0, "of the ASKED FIELDS on which it HANGS, by number,");
        ThinkingForm x = new ThinkingForm();
        x.field(0, 2, 0);
        x.field(0, 1, 0);
        x.field(0, 9, 1);
        x.field(0, 9, 1);
        int zero = x.part(0, 0, 0, 0);
        x.rule(2, 0, zero);
        edge.due("none turns", x.reach(2), 0);
        edge.due("one row", x.tried(), 1);
        x.rule(2, 3, x.part(1, 1, 0, 0));
        edge.due("what its MAKE is of turns", x.reach(2), 0);
        edge.due("three rows", x.tried(), 3);
        x.rule(3, 3, x.part(1, 0, 0, 0));
        x.rule(2, 0, x.part(4, zero, x.part(1, 3, 0, 0), 0));
        edge.due("what that is MADE of turns, what is MADE does not", x.reach(2), 0);
        edge.due("twelve rows", x.tried(), 12);
        x.rule(2, 1, x.part(1, 0, 0, 0));
        x.rule(2, 2, x.part(1, 0, 0, 0));
        x.rule(2, 0, zero);
        edge.due("what NEED and RIGHT are of does not", x.reach(2), 0);
        edge.due("three rows again", x.tried(), 3);
    }

    private void allOthersNone() {
        edge.of(0, "all others none.");
        ThinkingForm x = shownBy(1, 6);
        for (int d = 0; d <= 3; d++) {
            x.answer(d, 1, 1);
            x.answer(d, 2, 1);
            x.answer(d, 3, 6);
            x.answer(d, 4, 1);
        }
        edge.due("a trial", x.reach(2), 1);
        edge.due("what drafts have does not matter", x.tried(), 12);
        for (int f : new int[] {0, 2, 4}) {
            edge.due("none of " + f, x.found(f), LOST);
        }
        edge.due("drafts stay", x.kept(0, 4), 1);
    }

    private void tillOneShows() {
        edge.of(0, "All rows of these, the first FIELD's going slowest, are tried till one SHOWS the FIELD;");
        ThinkingForm x = new ThinkingForm();
        x.field(0, 9, 0);
        x.field(0, 1, 0);
        x.field(0, 9, 0);
        x.part(1, 0, 0, 0);
        x.part(1, 1, 0, 0);
        x.rule(2, 0, x.part(2, 1, 0, 0));
        edge.due("0 and 1 show it first", x.reach(2), 1);
        edge.due("none with three, 0 with three", x.tried(), 6);
        edge.due("the slowest", x.found(0), 0);
        edge.due("the fastest", x.found(1), 1);
        x.rule(2, 0, x.part(9, x.part(2, 1, 0, 0), 0, 0));
        edge.due("0 and 0 show it first", x.reach(2), 1);
        edge.due("one row less", x.tried(), 5);
        x.rule(2, 0, x.part(9, x.part(10, 0, 0, 0), 0, 0));
        edge.due("the first row shows it", x.reach(2), 1);
        edge.due("it alone is tried", x.tried(), 1);
    }

    private void spent() {
        edge.of(0, "if there are more than 20000 of them: SPENT.");
        ThinkingForm x = Forms.neverShown(100, 200);
        edge.due("20000 rows", x.reach(2), 0);
        edge.due("all are tried", x.tried(), 20000);
        edge.due("20001 rows", Forms.neverShown(177, 113).reach(2), -6);
        edge.due("20001 rows, the other way", Forms.neverShown(113, 177).reach(2), -6);
        edge.due("20040 rows", Forms.neverShown(10, 1002, 2).reach(3), -6);
        edge.due("20000 rows twice", Forms.neverShown(100, 200, 2).reach(3), -6);
        edge.due("20000 rows of three", Forms.neverShown(2, 100, 100).reach(3), 0);
        edge.due("19998 rows", Forms.neverShown(99, 202).reach(2), 0);
        ThinkingForm y = new ThinkingForm();
        y.field(-1000, 1000, 0);
        y.field(0, 9, 0);
        y.rule(1, 0, y.part(6, y.part(0, 999, 0, 0), y.part(1, 0, 0, 0), 0));
        edge.due("the widest span", y.reach(1), 1);
        edge.due("its last row of 2002", y.tried(), 2002);
        edge.due("its last number", y.found(0), 1000);
        ThinkingForm z = Forms.neverShown(177, 113);
        z.rule(2, 0, z.part(9, z.part(10, 0, 0, 0), 0, 0));
        edge.due("177 rows of one alone", z.reach(2), 1);
        z.rule(2, 0, z.part(8, z.told(1) - 1, 4, 0));
        edge.due("more than 20000, though the first would show it", z.reach(2), -6);
    }

    private void spentWhereNumbersWrap() {
        edge.of(0, "if there are more than 20000 of them: SPENT.");
        edge.due("2 to the 32", Forms.neverShown(16, 16, 16, 16, 16, 16, 16, 16).reach(8), -6);
        edge.due("2 to the 66", Forms.neverShown(64, 64, 64, 64, 64, 64, 64, 64, 64, 64, 64).reach(11), -6);
        edge.due("the most that there can be",
                Forms.neverShown(1002, 1002, 1002, 1002, 1002, 1002, 1002, 1002, 1002, 1002, 1002).reach(11), -6);
        ThinkingForm x = Forms.neverShown(2, 2, 2, 2, 2, 2, 2, 2, 2, 2, 2);
        edge.due("eleven that turn", x.reach(11), 0);
        edge.due("2 to the 11", x.tried(), 2048);
    }

    private void reach() {
        edge.of(21, "A TRIAL: 1 one SHOWS the FIELD, 0 none does.");
        ThinkingForm x = Forms.withAnswers(12, 0);
        int zero = x.part(0, 0, 0, 0);
        for (int f = 0; f < 12; f += 11) {
            edge.due("no SHOW", x.reach(f), 1);
            x.rule(f, 0, zero);
            edge.due("SHOW is 0", x.reach(f), 0);
            x.rule(f, 0, -9);
        }
        x.rule(11, 0, 0);
        edge.due("shown by what can be answered", x.reach(11), 1);
        x.rule(0, 0, zero);
        edge.due("by what is always hidden", x.reach(11), 0);
        ThinkingForm y = new ThinkingForm();
        y.field(0, 0, 0);
        y.field(0, 0, 0);
        y.rule(1, 0, y.part(1, 0, 0, 0));
        edge.due("none, and 0 alone", y.reach(1), 0);
        edge.due("two rows", y.tried(), 2);
    }

    private void reachRefused() {
        edge.of(21, "UNKNOWN; SPENT.");
        ThinkingForm x = Forms.neverShown(177, 113);
        for (int none : new int[] {LOW, -9, -1, 3, 12, TOP}) {
            edge.due("FIELD " + none, x.reach(none), -1);
        }
        edge.due("the last FIELD", x.reach(2), -6);
        edge.due("another of the same form", x.reach(1), 1);
    }

    private void found() {
        edge.of(22, "The ANSWER of a FIELD in the row that the latest TRIAL found (0 or 1 told).");
        ThinkingForm x = shownBy(1, 5);
        int wide = x.field(-1000, 1000, 0);
        int far = x.field(0, 9, 0);
        x.rule(far, 0, x.part(8, x.part(1, wide, 0, 0), x.part(1, 4, 0, 0), 0));
        x.reach(2);
        edge.due("field 1", x.found(1), 1);
        edge.due("field 3", x.found(3), 5);
        edge.due("SPENT", x.reach(far), -6);
        edge.due("UNKNOWN", x.reach(far + 1), -1);
        x.rule(2, 0, -9);
        x.answer(0, 1, -1);
        edge.due("stays", x.found(1), 1);
        edge.due("stays", x.found(3), 5);
        edge.due("1 told", x.reach(2), 1);
        edge.due("the latest has no more", x.found(1), LOST);
    }

    private void foundLost() {
        edge.of(22, "LOST: none,");
        ThinkingForm x = shownBy(LOST, 5);
        x.reach(2);
        edge.due("one that turns, none", x.found(1), LOST);
        edge.due("the other", x.found(3), 5);
        edge.due("the field itself", x.found(2), LOST);
        edge.due("one that does not turn", x.found(4), LOST);
        // The rows are of ASKED FIELDS, and "all others none": a MADE one has none in them, even one that COUNTS then.
        edge.due("a MADE one", x.found(0), LOST);
        x.rule(0, 3, x.part(0, 4, 0, 0));
        x.rule(2, 0, x.part(1, 0, 0, 0));
        edge.due("shown by a MADE one", x.reach(2), 1);
        edge.due("the MADE one", x.found(0), LOST);
        edge.of(22, "there was none such,");
        edge.due("no trial yet", shownBy(1, 5).found(1), LOST);
        ThinkingForm y = shownBy(1, 5);
        y.reach(2);
        y.rule(2, 0, y.part(4, y.part(0, 0, 0, 0), y.part(1, 1, 0, 0), 0));
        edge.due("0 told", y.reach(2), 0);
        edge.due("no row was found", y.found(1), LOST);
        edge.due("no row was found", y.found(3), LOST);
        edge.of(22, "UNKNOWN.");
        ThinkingForm z = shownBy(1, 5);
        z.reach(2);
        for (int none : new int[] {LOW, -9, -1, 5, 12, TOP}) {
            edge.due("FIELD " + none, z.found(none), LOST);
        }
        z.field(0, 9, 0);
        edge.due("a field that has come since", z.found(5), LOST);
    }

    private void tried() {
        edge.of(23, "(0 ahead of any).");
        ThinkingForm x = Forms.neverShown(177, 113);
        edge.due("at first", x.tried(), 0);
        x.reach(-1);
        edge.due("behind one that is UNKNOWN", x.tried(), 0);
        x.reach(2);
        edge.due("behind one that is SPENT", x.tried(), 0);
        edge.of(23, "How many rows the latest TRIAL that was not SPENT tried");
        x.reach(0);
        edge.due("the least", x.tried(), 1);
        x.rule(2, 0, x.part(4, 0, 1, 0));
        x.reach(2);
        edge.due("all of one span, and none", x.tried(), 177);
        x.rule(2, 0, 4);
        edge.due("SPENT", x.reach(2), -6);
        edge.due("stays", x.tried(), 177);
        edge.due("UNKNOWN", x.reach(3), -1);
        edge.due("stays", x.tried(), 177);
        ThinkingForm y = Forms.neverShown(100, 200);
        y.reach(2);
        edge.due("the most", y.tried(), 20000);
    }

    private void told() {
        ThinkingForm x = new ThinkingForm();
        edge.of(24, "How many: 0 FIELDS, 1 PARTS, 2 ASKED FIELDS, 3 SEALS,");
        for (int what = 0; what <= 3; what++) {
            edge.due("none of " + what, x.told(what), 0);
        }
        for (int f = 0; f < 12; f++) {
            x.field(0, 9, f % 3 == 0 ? 1 : 0);
        }
        for (int p = 0; p < 50; p++) {
            x.part(0, 0, 0, 0);
        }
        for (int s = 0; s < 6; s++) {
            x.seal(s % 4, 2);
        }
        int[] full = {12, 50, 8, 6};
        for (int what = 0; what <= 3; what++) {
            edge.due("all of " + what, x.told(what), full[what]);
        }
        edge.of(24, "4 SEALS that HOLD,");
        edge.due("all hold", x.told(4), 6);
        for (int s = 0; s < 6; s++) {
            x.open(s);
            edge.due("one less", x.told(4), 5 - s);
            edge.due("seals are as many", x.told(3), 6);
        }
        ThinkingForm y = Forms.withAnswers(2, 0);
        y.seal(0, 1);
        y.seal(1, 1);
        y.seal(1, 2);
        y.rule(0, 0, y.part(0, 0, 0, 0));
        edge.due("two of three have another status", y.told(4), 1);
        edge.of(24, "5 FIELDS AT ODDS in the latest JOINING;");
        ThinkingForm z = Forms.withAnswers(12, 0);
        edge.due("before any", z.told(5), 0);
        for (int f = 0; f < 12; f++) {
            z.answer(1, f, 1);
            z.answer(2, f, 2);
        }
        z.join(0, 1, 2, 3);
        edge.due("all", z.told(5), 12);
        z.join(0, 1, 2, 4);
        edge.due("a refused one leaves it", z.told(5), 12);
        z.join(0, 1, 1, 3);
        edge.due("none", z.told(5), 0);
    }

    private void toldAnswers() {
        edge.of(24, "10 and d: ANSWERS kept in DRAFT d.");
        ThinkingForm x = Forms.withAnswers(11, 0);
        x.field(0, 9, 1);
        int zero = x.part(0, 0, 0, 0);
        x.rule(11, 3, zero);
        for (int d = 0; d <= 3; d++) {
            edge.due("none, a MADE one is not kept", x.told(10 + d), 0);
            for (int f = 0; f < 11; f++) {
                x.answer(d, f, 0);
                edge.due("one more", x.told(10 + d), f + 1);
            }
            x.clear(d, 10);
            edge.due("one less", x.told(10 + d), 10);
        }
        x.rule(0, 0, zero);
        edge.due("a hidden one is kept", x.told(13), 10);
    }

    private void toldOutside() {
        edge.of(24, "OUTSIDE.");
        ThinkingForm x = Forms.withAnswers(1, 0);
        for (int other : new int[] {LOW, LOW + 9, LOW + 10, -9, -1, 6, 9, 14, 15, TOP}) {
            edge.due("what " + other, x.told(other), -2);
        }
        for (int what : new int[] {0, 5, 10, 13}) {
            edge.due("what " + what, x.told(what) < 0 ? 1 : 0, 0);
        }
    }

    private void traceWraps() {
        edge.of(0, "TELLING of FIELDS by bodies that leave their number in TRACE (an int that wraps, 0 at first, becomes"
                + " 31 times it and the number)");
        ThinkingForm x = new ThinkingForm();
        x.field(0, 9, 0);
        edge.due("at first", x.trace(), 0);
        int[] asked = {1, 32, 993, 30784, 954305, 29583456, 917087137, -1635069824, 852443009, 655929504};
        for (int due : asked) {
            x.tell(0);
            edge.due("after a telling", x.trace(), due);
        }
        ThinkingForm y = new ThinkingForm();
        y.field(0, 9, 0);
        int[] lent = {4, 128, 3972, 123136, 3817220, 118333824, -626618748, 2049655296};
        for (int due : lent) {
            y.address(0);
            edge.due("after an addressing", y.trace(), due);
        }
        edge.of(27, "TRACE.");
        edge.due("it is told, not begun", y.trace(), 2049655296);
        edge.due("new objects have their own", new ThinkingForm().trace(), 0);
    }

    private void bodiesAsTheyBegin() {
        // A reading: "what ASKED gives" is had from its body, which begins behind that of MADE; that of NEED is ahead of both.
        edge.of(0, "as they begin:");
        ThinkingForm x = new ThinkingForm();
        x.field(0, 9, 0);
        x.field(0, 9, 1);
        int part = x.part(0, 0, 0, 0);
        x.tell(1);
        edge.due("MADE: 2, 1", x.trace(), 2 * 31 + 1);
        x.rule(1, 1, part);
        x.tell(1);
        edge.due("MADE with NEED: 3, 2, 1", x.trace(), (((2 * 31 + 1) * 31 + 3) * 31 + 2) * 31 + 1);
        ThinkingForm y = new ThinkingForm();
        y.field(0, 9, 0);
        y.rule(0, 1, y.part(0, 0, 0, 0));
        y.tell(0);
        edge.due("ASKED with NEED: 3, 1", y.trace(), 3 * 31 + 1);
    }

    /** Fields 0, 1, 2 of a kind: the narrowest spans and the widest. */
    private ThinkingForm narrowAndWide(int kind) {
        ThinkingForm x = new ThinkingForm();
        x.field(-1000, -1000, kind);
        x.field(1000, 1000, kind);
        x.field(-1000, 1000, kind);
        x.part(0, 0, 0, 0);
        return x;
    }

    private void dueTelling(ThinkingForm x, int narrow, int wide) {
        edge.due("narrowest, low", x.tell(0), narrow);
        edge.due("narrowest, high", x.tell(1), narrow);
        edge.due("widest", x.tell(2), wide);
    }

    private void tellAsked() {
        edge.of(0, "ASKED (1): high less low.");
        dueTelling(narrowAndWide(0), 0, 2000);
        edge.of(25, "TELLING of a FIELD.");
        ThinkingForm x = Forms.withAnswers(12, 0);
        edge.due("the first", x.tell(0), 9);
        edge.due("the last", x.tell(11), 9);
        edge.due("two bodies of 1", x.trace(), 32);
    }

    private void tellMade() {
        edge.of(0, "MADE (2): what ASKED gives, and 1000.");
        dueTelling(narrowAndWide(1), 1000, 3000);
    }

    private void tellNeeded() {
        edge.of(0, "One with NEED (3; ASKED or MADE): twice what it would give else.");
        // A rule that is there, whatever its VALUE is: here it is 0.
        int[][] narrowWide = {{0, 2000}, {1000, 3000}};
        for (int kind = 0; kind <= 1; kind++) {
            ThinkingForm x = narrowAndWide(kind);
            for (int f = 0; f < 3; f++) {
                x.rule(f, 0, 0);
                x.rule(f, 2, 0);
            }
            dueTelling(x, narrowWide[kind][0], narrowWide[kind][1]);
            for (int f = 0; f < 3; f++) {
                x.rule(f, 1, 0);
            }
            dueTelling(x, 2 * narrowWide[kind][0], 2 * narrowWide[kind][1]);
            for (int f = 0; f < 3; f++) {
                x.rule(f, 1, -9);
            }
            dueTelling(x, narrowWide[kind][0], narrowWide[kind][1]);
        }
    }

    private void addressLent() {
        edge.of(0, "ADDRESSED by a lent body (4): 10 times the number;");
        ThinkingForm x = Forms.withAnswers(12, 0);
        x.rule(11, 1, 0);
        edge.due("the first", x.address(0), 0);
        edge.due("the last, with NEED", x.address(11), 110);
        edge.due("two bodies of 4", x.trace(), 4 * 31 + 4);
        edge.of(26, "How it is ADDRESSED.");
        for (int f = 0; f < 12; f++) {
            edge.due("field " + f, x.address(f), 10 * f);
        }
    }

    private void addressMade() {
        edge.of(0, "one that is MADE has its own (5): 5.");
        ThinkingForm x = Forms.withAnswers(12, 1);
        x.rule(11, 1, 0);
        edge.due("the first", x.address(0), 5);
        edge.due("the last, with NEED", x.address(11), 5);
        edge.due("two bodies of 5", x.trace(), 5 * 31 + 5);
    }

    private void tellAndAddressRefused() {
        ThinkingForm x = Forms.withAnswers(11, 0);
        x.tell(10);
        for (int none : new int[] {LOW, -9, -1, 11, 12, TOP}) {
            edge.of(25, "UNKNOWN.");
            edge.due("tell(" + none + ")", x.tell(none), -1);
            edge.of(26, "UNKNOWN.");
            edge.due("address(" + none + ")", x.address(none), -1);
        }
        edge.due("no body began", x.trace(), 1);
    }

    private void calls512() {
        edge.of(0, "An object is used for at most 512 calls after it has been made; what later calls answer is free.");
        ThinkingForm x = new ThinkingForm();
        x.field(0, 9, 0);
        BigInteger trace = BigInteger.ZERO;
        for (int call = 2; call <= 511; call++) {
            edge.due("call " + call, call % 2 == 0 ? x.tell(0) : x.address(0), call % 2 == 0 ? 9 : 0);
            trace = trace.multiply(BigInteger.valueOf(31)).add(BigInteger.valueOf(call % 2 == 0 ? 1 : 4));
        }
        edge.due("call 512 is answered as any", x.trace(), trace.intValue());
    }

    /** As many of the dearest calls as there may be, on a form that is as full as can be. */
    private void dearCalls512() {
        ThinkingForm x = Forms.neverShown(100, 200);
        while (x.told(0) < 12) {
            x.field(0, 9, 1);
        }
        int calls = 9 + 10 + 9;
        for (int f = 3; f < 12; f++) {
            x.rule(f, 3, 4);
            calls++;
        }
        int rest = 4;
        for (int p = 5; p < 50; p++) {
            rest = x.part(2, rest, 4, 0);
            calls++;
        }
        x.rule(2, 0, rest);
        calls++;
        for (int call = calls + 1; call < 512; call++) {
            edge.due("call " + call, x.reach(2), 0);
        }
        edge.due("call 512", x.tried(), 20000);
    }
}
