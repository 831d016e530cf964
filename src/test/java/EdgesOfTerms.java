/** The boundaries that Terms name up to the rings: refusals, fields, parts, values, rules, what hangs on what. */
final class EdgesOfTerms {
    private static final int LOW = Edge.LOW, TOP = Edge.TOP, LOST = Edge.LOST;

    private final Edge edge;

    EdgesOfTerms(Edge edge) {
        this.edge = edge;
    }

    void run() {
        refusals();
        noneAndLost();
        fieldsEver();
        spans();
        kinds();
        partsEver();
        lesserNumbers();
        numberAndAnswer();
        sumDifferenceProduct();
        alikeBelow();
        bothEitherNot();
        countsAndChoice();
        cut();
        cutWhereAnIntWraps();
        missing();
        missingButBothEither();
        missingButChoiceAndCounts();
        rulesAtFirst();
        madeWithoutMake();
        shown();
        counts();
        hangs();
        hangsDeep();
        noneHangsOnItself();
    }

    private void refusals() {
        edge.of(0, "REFUSALS: UNKNOWN (-1: there is no such FIELD, PART, DRAFT, SEAL, place), OUTSIDE (-2: a number is"
                + " not as told), STATE (-3: as told), FULL (-4), SPENT (-6: as told);");
        ThinkingForm x = Forms.withAnswers(1, 0);
        x.answer(0, 0, 2);
        x.seal(0, 1);
        edge.due("the last FIELD", x.reach(0), 1);
        edge.due("the last PART", x.rule(0, 1, 0), 1);
        edge.due("the last DRAFT", x.done(3), 1);
        edge.due("the last SEAL", x.sealed(0, 1), 1);
        for (int none : new int[] {LOW, -1, 1, TOP}) {
            edge.due("FIELD " + none, x.reach(none), -1);
            edge.due("PART " + none, x.rule(0, 1, none), -1);
            edge.due("SEAL " + none, x.open(none), -1);
            edge.due("place in a ring " + none, x.ring(none), -1);
            edge.due("place among odds " + none, x.odds(none), -1);
        }
        for (int none : new int[] {LOW, -1, 4, TOP}) {
            edge.due("DRAFT " + none, x.done(none), -1);
        }
        edge.due("OUTSIDE", x.field(0, 1001, 0), -2);
        edge.due("STATE", x.answer(0, 0, 1), -3);
        edge.due("UNKNOWN", ThinkingForm.UNKNOWN, -1);
        edge.due("OUTSIDE", ThinkingForm.OUTSIDE, -2);
        edge.due("STATE", ThinkingForm.STATE, -3);
        edge.due("FULL", ThinkingForm.FULL, -4);
        edge.due("SPENT", ThinkingForm.SPENT, -6);
    }

    private void noneAndLost() {
        edge.of(0, "NONE is -9. LOST is -2000000000.");
        ThinkingForm x = Forms.withAnswers(1, 0);
        edge.due("NONE", ThinkingForm.NONE, -9);
        edge.due("LOST", ThinkingForm.LOST, -2000000000);
        edge.due("no rule", x.about(0, 3), -9);
        edge.due("no answer", x.kept(0, 0), -2000000000);
    }

    private void fieldsEver() {
        edge.of(0, "FIELDS, 12 ever, numbered as they come, each with");
        ThinkingForm x = new ThinkingForm();
        for (int f = 0; f < 12; f++) {
            edge.due("one that is refused takes no number", x.field(1, 0, 0), -2);
            edge.due("field " + f, x.field(-f, f, f % 2), f);
        }
        edge.due("a thirteenth", x.field(0, 0, 0), -4);
        edge.due("a thirteenth, MADE", x.field(0, 0, 1), -4);
        edge.due("the twelfth is the last", x.about(11, 0), -11);
        edge.due("and is a field as others are", x.status(3, 11), 1);
        edge.due("there is no thirteenth", x.about(12, 0), -1);
    }

    private void spans() {
        edge.of(0, "a SPAN (low .. high, both -1000 .. 1000), of");
        ThinkingForm x = new ThinkingForm();
        edge.due("widest", x.field(-1000, 1000, 0), 0);
        edge.due("lowest", x.field(-1000, -1000, 0), 1);
        edge.due("highest", x.field(1000, 1000, 1), 2);
        edge.due("low one below", x.field(-1001, 1000, 0), -2);
        edge.due("high one above", x.field(-1000, 1001, 0), -2);
        edge.due("both one below", x.field(-1001, -1001, 0), -2);
        edge.due("both one above", x.field(1001, 1001, 0), -2);
        edge.due("both as far as they go", x.field(LOW, TOP, 0), -2);
        edge.due("answer at low", x.answer(0, 0, -1000), 0);
        edge.due("answer at high", x.answer(0, 0, 1000), 0);
        edge.due("one number alone", x.answer(0, 1, -1000), 0);
        edge.due("one number alone, above", x.answer(0, 1, -999), -2);
    }

    private void kinds() {
        edge.of(0, "a kind: 0 ASKED; 1 MADE (worked out; its ANSWER is the VALUE of a PART).");
        ThinkingForm x = new ThinkingForm();
        edge.due("kind -1", x.field(0, 9, -1), -2);
        edge.due("kind 0", x.field(0, 9, 0), 0);
        edge.due("kind 1", x.field(0, 9, 1), 1);
        edge.due("kind 2", x.field(0, 9, 2), -2);
        x.rule(1, 3, x.part(0, 4, 0, 0));
        edge.due("an ASKED one is answered", x.answer(0, 0, 3), 0);
        edge.due("a MADE one is not", x.answer(0, 1, 3), -3);
        edge.due("it is worked out", x.counts(0, 1), 4);
    }

    private void partsEver() {
        edge.of(0, "PARTS, 50 ever, numbered as they come,");
        ThinkingForm x = new ThinkingForm();
        for (int p = 0; p < 50; p++) {
            edge.due("one that is refused takes no number", x.part(12, 0, 0, 0), -2);
            edge.due("part " + p, x.part(0, 100 + p, 0, 0), p);
        }
        edge.due("a fifty-first", x.part(0, 0, 0, 0), -4);
        edge.due("a fifty-first of the last", x.part(9, 49, 0, 0), -4);
        edge.due("the fiftieth is the last", x.value(0, 49), 149);
        edge.due("there is no fifty-first", x.value(0, 50), LOST);
        fieldsAndPartsFull();
    }

    /** 12 FIELDS and 50 PARTS at once, the last of which is of all the ANSWERS that there can be. */
    private void fieldsAndPartsFull() {
        ThinkingForm x = Forms.withAnswers(12, 0);
        int sum = 0;
        while (x.told(1) < 50) {
            sum = x.part(2, sum, Math.min(x.told(1) - 11, 11), 0);
        }
        x.rule(11, 1, 49);
        x.rule(11, 2, 49);
        for (int f = 0; f < 11; f++) {
            x.answer(3, f, 1);
        }
        edge.due("one answer is not there", x.value(3, 49), LOST);
        x.answer(3, 11, 0);
        for (int f = 0; f < 12; f++) {
            edge.due("status of field " + f, x.status(3, f), 3);
            edge.due("value of its part", x.value(3, f), f == 11 ? 0 : 1);
        }
        for (int p = 12; p < 50; p++) {
            edge.due("value of part " + p, x.value(3, p), Math.min(p - 10, 11));
        }
    }

    private void lesserNumbers() {
        edge.of(0, "each of those of lesser numbers:");
        for (int kind = 2; kind <= 11; kind++) {
            if (kind != 10) {
                lesserNumbersOf(kind);
            }
        }
    }

    private void lesserNumbersOf(int kind) {
        ThinkingForm x = new ThinkingForm();
        x.part(0, 1, 0, 0);
        x.part(0, 1, 0, 0);
        for (int own : new int[] {2, 3, -1}) {
            edge.due("a of " + kind + " is " + own, x.part(kind, own, 1, 1), -1);
            if (kind != 9) {
                edge.due("b of " + kind + " is " + own, x.part(kind, 1, own, 1), -1);
            }
            if (kind == 11) {
                edge.due("c of " + kind + " is " + own, x.part(kind, 1, 1, own), -1);
            }
        }
        edge.due("kind " + kind + " of the one before it", x.part(kind, 1, 1, 1), 2);
        edge.due("kind " + kind + " of the first and the one before", x.part(kind, 2, 0, 0), 3);
    }

    private void numberAndAnswer() {
        edge.of(0, "0 NUMBER a.");
        ThinkingForm x = new ThinkingForm();
        for (int a : new int[] {-1000000, -1, 0, 1, 1000000}) {
            edge.due("NUMBER " + a, Forms.valueOf(x, 0, a, 0, 0), a);
        }
        edge.of(0, "1 ANSWER of FIELD a.");
        ThinkingForm y = Forms.withAnswers(12, 0);
        for (int f = 0; f < 12; f += 11) {
            edge.due("before it is answered", y.value(3, f), LOST);
            y.answer(3, f, f == 0 ? 0 : 9);
            edge.due("ANSWER of " + f, y.value(3, f), f == 0 ? 0 : 9);
            edge.due("in another draft", y.value(0, f), LOST);
        }
        edge.due("ANSWER of a field too many", y.part(1, 12, 0, 0), -1);
    }

    private void sumDifferenceProduct() {
        edge.of(0, "2 SUM, 3 DIFFERENCE, 4 PRODUCT,");
        int[] numbers = {-7, -1, 0, 1, 5};
        for (int a : numbers) {
            for (int b : numbers) {
                ThinkingForm x = new ThinkingForm();
                x.part(0, a, 0, 0);
                x.part(0, b, 0, 0);
                edge.due(a + " and " + b, Forms.valueOf(x, 2, 0, 1, 0), a + b);
                edge.due(a + " less " + b, Forms.valueOf(x, 3, 0, 1, 0), a - b);
                edge.due(a + " times " + b, Forms.valueOf(x, 4, 0, 1, 0), a * b);
            }
        }
    }

    private void alikeBelow() {
        edge.of(0, "5 ALIKE, 6 BELOW (5, 6: 1 or 0),");
        int[][] rows = {{4, 5, 0, 1}, {5, 5, 1, 0}, {6, 5, 0, 0}, {-1, 0, 0, 1}, {0, -1, 0, 0},
            {-1000000, 1000000, 0, 1}, {1000000, -1000000, 0, 0}, {1000000, 1000000, 1, 0}};
        for (int[] row : rows) {
            ThinkingForm x = new ThinkingForm();
            x.part(0, row[0], 0, 0);
            x.part(0, row[1], 0, 0);
            edge.due(row[0] + " ALIKE " + row[1], Forms.valueOf(x, 5, 0, 1, 0), row[2]);
            edge.due(row[0] + " BELOW " + row[1], Forms.valueOf(x, 6, 0, 1, 0), row[3]);
        }
    }

    private void bothEitherNot() {
        int[] numbers = {-1000000, -1, 0, 1, 2};
        edge.of(0, "7 BOTH, 8 EITHER of PARTS a, b. 9 NOT a.");
        bothEitherNotOf(numbers);
        edge.of(0, "(BOTH, EITHER, NOT tell 1 or 0, of numbers 0 or not);");
        bothEitherNotOf(new int[] {-2, 0, 3});
    }

    private void bothEitherNotOf(int[] numbers) {
        for (int a : numbers) {
            for (int b : numbers) {
                ThinkingForm x = new ThinkingForm();
                x.part(0, a, 0, 0);
                x.part(0, b, 0, 0);
                edge.due(a + " BOTH " + b, Forms.valueOf(x, 7, 0, 1, 0), a != 0 && b != 0 ? 1 : 0);
                edge.due(a + " EITHER " + b, Forms.valueOf(x, 8, 0, 1, 0), a != 0 || b != 0 ? 1 : 0);
                edge.due("NOT " + a, Forms.valueOf(x, 9, 0, 1, 0), a != 0 ? 0 : 1);
            }
        }
    }

    private void countsAndChoice() {
        edge.of(0, "10 whether the ANSWER of FIELD a COUNTS (1, 0).");
        ThinkingForm x = Forms.withAnswers(12, 0);
        int first = x.part(10, 0, 0, 0);
        int last = x.part(10, 11, 0, 0);
        edge.due("the last does not", x.value(0, last), 0);
        x.answer(0, 11, 0);
        edge.due("the last does, though it is 0", x.value(0, last), 1);
        edge.due("the first does not", x.value(0, first), 0);
        x.answer(0, 0, 9);
        edge.due("the first does, and it is 1, not 9", x.value(0, first), 1);
        edge.of(0, "11 PART b, if a is not 0, else c.");
        for (int a : new int[] {-1000000, -1, 0, 1, 1000000}) {
            ThinkingForm y = new ThinkingForm();
            y.part(0, a, 0, 0);
            y.part(0, 20, 0, 0);
            y.part(0, 30, 0, 0);
            edge.due("a is " + a, Forms.valueOf(y, 11, 0, 1, 2), a != 0 ? 20 : 30);
        }
    }

    /** In each row: a, b, and their SUM, DIFFERENCE and PRODUCT with the last that is not cut or the first that is. */
    private void cut() {
        edge.of(0, "VALUES are whole numbers, or MISSING; a number beyond 1000000 either way is cut to that.");
        int[][] rows = {{999999, 1, 1000000, 999998, 999999}, {1000000, 1, 1000000, 999999, 1000000},
            {-999999, -1, -1000000, -999998, 999999}, {-1000000, -1, -1000000, -999999, 1000000},
            {999999, -1, 999998, 1000000, -999999}, {1000000, -1, 999999, 1000000, -1000000},
            {-999999, 1, -999998, -1000000, -999999}, {-1000000, 1, -999999, -1000000, -1000000},
            {1000, 1000, 2000, 0, 1000000}, {1000, 1001, 2001, -1, 1000000}, {-1000, 1000, 0, -2000, -1000000},
            {-1000, 1001, 1, -2001, -1000000}, {333333, 3, 333336, 333330, 999999},
            {101, 9901, 10002, -9800, 1000000}, {-101, 9901, 9800, -10002, -1000000}};
        for (int[] row : rows) {
            sumDifferenceProductOf(row);
        }
        ThinkingForm x = new ThinkingForm();
        x.part(0, 1000000, 0, 0);
        x.part(0, 1, 0, 0);
        x.part(2, 0, 1, 0);
        edge.due("it is cut where it arises, not in the end", Forms.valueOf(x, 3, 2, 1, 0), 999999);
        edge.due("what is cut is alike", Forms.valueOf(x, 5, 0, 2, 0), 1);
        edge.due("what is cut is not above", Forms.valueOf(x, 6, 0, 2, 0), 0);
    }

    private void sumDifferenceProductOf(int[] row) {
        ThinkingForm x = new ThinkingForm();
        x.part(0, row[0], 0, 0);
        x.part(0, row[1], 0, 0);
        for (int kind = 2; kind <= 4; kind++) {
            edge.due(row[0] + " and " + row[1] + " by kind " + kind, Forms.valueOf(x, kind, 0, 1, 0), row[kind]);
        }
    }

    private void cutWhereAnIntWraps() {
        edge.of(0, "a number beyond 1000000 either way is cut to that.");
        int[][] rows = {{46341, 46341, 1000000}, {65536, 65536, 1000000}, {-65536, 65536, -1000000},
            {65536, 32768, 1000000}, {1000000, 1000000, 1000000}, {-1000000, 1000000, -1000000},
            {-1000000, -1000000, 1000000}};
        for (int[] row : rows) {
            ThinkingForm x = new ThinkingForm();
            x.part(0, row[0], 0, 0);
            x.part(0, row[1], 0, 0);
            edge.due(row[0] + " times " + row[1], Forms.valueOf(x, 4, 0, 1, 0), row[2]);
        }
    }

    /** Part 0 is MISSING, part 1 is 0, part 2 is 1, part 3 is -1. */
    private ThinkingForm withMissing() {
        ThinkingForm x = new ThinkingForm();
        x.field(0, 9, 0);
        x.part(1, 0, 0, 0);
        x.part(0, 0, 0, 0);
        x.part(0, 1, 0, 0);
        x.part(0, -1, 0, 0);
        return x;
    }

    private void missing() {
        edge.of(0, "MISSING is each that is of one MISSING, but:");
        for (int kind = 2; kind <= 9; kind++) {
            ThinkingForm x = withMissing();
            edge.due("kind " + kind + " of two MISSING", Forms.valueOf(x, kind, 0, 0, 0), LOST);
        }
        for (int kind = 2; kind <= 6; kind++) {
            for (int there = 1; there <= 3; there++) {
                ThinkingForm x = withMissing();
                edge.due("a of " + kind + " is MISSING", Forms.valueOf(x, kind, 0, there, 0), LOST);
                edge.due("b of " + kind + " is MISSING", Forms.valueOf(x, kind, there, 0, 0), LOST);
            }
        }
        ThinkingForm x = withMissing();
        int sum = x.part(2, 0, 2, 0);
        edge.due("of one that is of one MISSING", Forms.valueOf(x, 4, 1, sum, 0), LOST);
        edge.of(0, "1 is MISSING, if the ANSWER does not COUNT.");
        edge.due("there is none", x.value(0, 0), LOST);
        x.answer(0, 0, 0);
        edge.due("it counts, though it is 0", x.value(0, 0), 0);
        x.rule(0, 0, 1);
        edge.due("it is hidden", x.value(0, 0), LOST);
    }

    private void missingButBothEither() {
        edge.of(0, "BOTH is 0, if one is 0;");
        ThinkingForm x = withMissing();
        edge.due("MISSING and 0", Forms.valueOf(x, 7, 0, 1, 0), 0);
        edge.due("0 and MISSING", Forms.valueOf(x, 7, 1, 0, 0), 0);
        edge.due("MISSING and 1", Forms.valueOf(x, 7, 0, 2, 0), LOST);
        edge.due("-1 and MISSING", Forms.valueOf(x, 7, 3, 0, 0), LOST);
        edge.of(0, "EITHER is 1, if one is there and not 0");
        edge.due("MISSING or 1", Forms.valueOf(x, 8, 0, 2, 0), 1);
        edge.due("-1 or MISSING", Forms.valueOf(x, 8, 3, 0, 0), 1);
        edge.due("MISSING or 0", Forms.valueOf(x, 8, 0, 1, 0), LOST);
        edge.due("0 or MISSING", Forms.valueOf(x, 8, 1, 0, 0), LOST);
    }

    private void missingButChoiceAndCounts() {
        edge.of(0, "11 looks at a, and then at the one that it is alone;");
        ThinkingForm x = withMissing();
        edge.due("a is MISSING", Forms.valueOf(x, 11, 0, 2, 2), LOST);
        edge.due("it is b, c is MISSING", Forms.valueOf(x, 11, 2, 3, 0), -1);
        edge.due("it is c, b is MISSING", Forms.valueOf(x, 11, 1, 0, 3), -1);
        edge.due("it is b, b is MISSING", Forms.valueOf(x, 11, 3, 0, 3), LOST);
        edge.due("it is c, c is MISSING", Forms.valueOf(x, 11, 1, 3, 0), LOST);
        edge.of(0, "10 is never MISSING.");
        int whether = x.part(10, 0, 0, 0);
        edge.due("without an answer", x.value(0, whether), 0);
        x.answer(0, 0, 5);
        edge.due("with one", x.value(0, whether), 1);
        x.rule(0, 0, 1);
        edge.due("with one that is hidden", x.value(0, whether), 0);
        x.field(0, 9, 1);
        edge.due("of a MADE one without MAKE", Forms.valueOf(x, 10, 1, 0, 0), 0);
    }

    private void rulesAtFirst() {
        edge.of(0, "RULES of a FIELD, PARTS or none (at first):");
        for (int kind = 0; kind <= 1; kind++) {
            ThinkingForm x = Forms.withAnswers(12, kind);
            for (int what = 3; what <= 6; what++) {
                edge.due("rule " + what + " of the first", x.about(0, what), -9);
                edge.due("rule " + what + " of the last", x.about(11, what), -9);
            }
        }
        edge.of(0, "0 SHOW, 1 NEED, 2 RIGHT,");
        ThinkingForm x = new ThinkingForm();
        x.field(0, 9, 0);
        int zero = x.part(0, 0, 0, 0);
        int one = x.part(0, 1, 0, 0);
        x.rule(0, 1, one);
        edge.due("1 is NEED", x.status(0, 0), 2);
        x.answer(0, 0, 3);
        x.rule(0, 2, zero);
        edge.due("2 is RIGHT", x.status(0, 0), 4);
        x.rule(0, 0, zero);
        edge.due("0 is SHOW", x.status(0, 0), 0);
    }

    private void madeWithoutMake() {
        edge.of(0, "3 MAKE (of a MADE one; without it its ANSWER is MISSING).");
        ThinkingForm x = Forms.withAnswers(2, 1);
        int zero = x.part(0, 0, 0, 0);
        edge.due("at first", x.value(0, 0), LOST);
        edge.due("at first", x.counts(0, 0), LOST);
        edge.due("MAKE", x.rule(0, 3, zero), 1);
        edge.due("with it", x.value(0, 0), 0);
        edge.due("no MAKE", x.rule(0, 3, -9), 1);
        edge.due("without it again", x.value(0, 0), LOST);
        edge.due("without it again", x.kept(0, 0), LOST);
        ThinkingForm y = Forms.withAnswers(1, 0);
        edge.due("of an ASKED one", y.rule(0, 3, 0), -2);
    }

    private void shown() {
        edge.of(0, "A FIELD is SHOWN, if it has no SHOW, or the VALUE of that is there and not 0.");
        ThinkingForm x = new ThinkingForm();
        x.field(-1, 1, 0);
        x.field(0, 9, 0);
        x.part(1, 0, 0, 0);
        edge.due("no SHOW", x.status(0, 1), 1);
        x.rule(1, 0, 0);
        edge.due("SHOW is MISSING", x.status(0, 1), 0);
        int[] statuses = {1, 0, 1};
        for (int v = -1; v <= 1; v++) {
            x.answer(0, 0, v);
            edge.due("SHOW is " + v, x.status(0, 1), statuses[v + 1]);
        }
        x.answer(0, 0, 0);
        x.rule(1, 0, -9);
        edge.due("no SHOW any more", x.status(0, 1), 1);
    }

    private void counts() {
        edge.of(0, "Its ANSWER COUNTS, if it is SHOWN and has one: of an ASKED one what was answered,");
        ThinkingForm x = Forms.withAnswers(2, 0);
        x.rule(1, 0, 0);
        x.answer(0, 0, 1);
        edge.due("shown, has none", x.counts(0, 1), LOST);
        x.answer(0, 1, 0);
        edge.due("shown, has one", x.counts(0, 1), 0);
        x.answer(0, 0, 0);
        edge.due("hidden, has one", x.counts(0, 1), LOST);
        edge.of(0, "of a MADE one the VALUE of MAKE, if that is there and in its SPAN.");
        ThinkingForm y = new ThinkingForm();
        y.field(-9, 9, 0);
        y.field(-2, 5, 1);
        y.rule(1, 3, y.part(1, 0, 0, 0));
        edge.due("MAKE is MISSING", y.counts(0, 1), LOST);
        int[][] rows = {{-3, LOST}, {-2, -2}, {0, 0}, {5, 5}, {6, LOST}};
        for (int[] row : rows) {
            y.answer(0, 0, row[0]);
            edge.due("MAKE is " + row[0], y.counts(0, 1), row[1]);
        }
        y.answer(0, 0, 5);
        y.rule(1, 0, y.part(0, 0, 0, 0));
        edge.due("in its SPAN, but hidden", y.counts(0, 1), LOST);
    }

    private void hangs() {
        edge.of(0, "A FIELD HANGS ON those whose ANSWERS its SHOW and its MAKE are of (kinds 1, 10 of PARTS,");
        for (int which = 0; which <= 3; which++) {
            for (int kind = 1; kind <= 10; kind += 9) {
                ThinkingForm x = Forms.withAnswers(2, 1);
                x.rule(1, which, x.part(kind, 0, 0, 0));
                edge.due("by rule " + which + " of kind " + kind, x.hangs(1, 0), which % 3 == 0 ? 1 : 0);
                edge.due("not the other way", x.hangs(0, 1), 0);
            }
        }
        edge.of(0, "and on those that these HANG ON.");
        ThinkingForm x = Forms.withAnswers(12, 1);
        for (int f = 0; f < 11; f++) {
            edge.due("before " + f, x.hangs(0, 11), 0);
            x.rule(f, f % 2 * 3, f + 1);
        }
        edge.due("through ten", x.hangs(0, 11), 1);
        x.rule(5, 0, -9);
        x.rule(5, 3, -9);
        edge.due("cut in the middle", x.hangs(0, 11), 0);
        edge.due("up to there", x.hangs(0, 5), 1);
        edge.due("from there", x.hangs(6, 11), 1);
    }

    private void hangsDeep() {
        edge.of(0, "of PARTS that they are of, and so on),");
        ThinkingForm x = Forms.withAnswers(2, 0);
        int deep = 0;
        while (x.told(1) < 50) {
            deep = x.part(9, deep, 0, 0);
        }
        edge.due("a rule that is 48 parts deep", x.rule(1, 0, deep), 1);
        edge.due("hangs on what is at its ground", x.hangs(1, 0), 1);
        x.answer(0, 0, 0);
        edge.due("NOT 48 times over 0", x.status(0, 1), 0);
        x.answer(0, 0, 1);
        edge.due("NOT 48 times over 1", x.status(0, 1), 1);
        for (int kind = 2; kind <= 8; kind++) {
            ThinkingForm y = Forms.withAnswers(3, 0);
            y.rule(2, 0, y.part(kind, 0, 1, 0));
            edge.due("both parts of kind " + kind, y.about(2, 7), 2);
        }
        ThinkingForm z = Forms.withAnswers(4, 0);
        z.rule(3, 0, z.part(11, 0, 1, 2));
        edge.due("all three of kind 11, that it is not, too", z.about(3, 7), 3);
    }

    private void noneHangsOnItself() {
        edge.of(0, "None may HANG ON itself: a RING.");
        for (int kind = 1; kind <= 10; kind += 9) {
            ThinkingForm x = Forms.withAnswers(1, 1);
            int own = x.part(kind, 0, 0, 0);
            int[] due = {-3, 1, 1, -3};
            for (int which = 0; which <= 3; which++) {
                edge.due("rule " + which + " of its own kind " + kind, x.rule(0, which, own), due[which]);
            }
            edge.due("it hangs on none", x.hangs(0, 0), 0);
        }
        ThinkingForm x = Forms.withAnswers(12, 0);
        for (int f = 0; f < 11; f++) {
            edge.due("a chain of " + (f + 2), x.rule(f, 0, f + 1), 1);
        }
        for (int f = 0; f < 12; f++) {
            edge.due("the last by " + f + " is a ring", x.rule(11, 0, f), -3);
        }
        edge.due("a chain of twelve stays", x.hangs(0, 11), 1);
    }
}
