/** The boundaries that promises 1 to 7 name. */
final class EdgesOfFields {
    private static final int LOW = Edge.LOW, TOP = Edge.TOP, LOST = Edge.LOST;
    private static final int[] WILD = {LOW, -2000000000, -1001, -9, -1, 0, 1, 3, 4, 9, 10, 12, 13, 30, 50, 1001, TOP};

    private final Edge edge;

    EdgesOfFields(Edge edge) {
        this.edge = edge;
    }

    void run() {
        newObject();
        newObjectByFields();
        newObjectByDrafts();
        newObjectByPairs();
        field();
        fieldOutside();
        fieldFull();
        part();
        partUnknown();
        partNotLookedAt();
        partOutside();
        partFull();
        rule();
        ruleUnknown();
        ruleOutside();
        ruleState();
        ringLatest();
        ringFromItsField();
        ringNextByShowOrMake();
        ringEnds();
        ringLeast();
        ringComesBack();
        ringUnknown();
        about();
        aboutHangs();
        aboutRefused();
        hangs();
    }

    private void newObject() {
        edge.of(1, "No FIELDS, PARTS, ANSWERS, SEALS.");
        ThinkingForm x = new ThinkingForm();
        for (int what = 0; what <= 5; what++) {
            edge.due("told(" + what + ")", x.told(what), 0);
        }
        for (int d = 0; d <= 3; d++) {
            edge.due("answers in " + d, x.told(10 + d), 0);
            edge.due("nothing is needed in " + d, x.done(d), 1);
        }
        edge.due("tried", x.tried(), 0);
        edge.due("trace", x.trace(), 0);
        edge.due("nothing is sealed", x.seal(0, 1), -2);
        edge.due("the first field", x.field(0, 9, 0), 0);
        for (int d = 0; d <= 3; d++) {
            edge.due("a new field has no answer in " + d, x.kept(d, 0), LOST);
        }
        edge.due("the first part", x.part(1, 0, 0, 0), 0);
        edge.due("the first seal", x.seal(0, 1), 0);
    }

    private void newObjectByFields() {
        ThinkingForm x = new ThinkingForm();
        for (int n : WILD) {
            edge.due("ring(" + n + ")", x.ring(n), -1);
            edge.due("odds(" + n + ")", x.odds(n), -1);
            edge.due("open(" + n + ")", x.open(n), -1);
            edge.due("reach(" + n + ")", x.reach(n), -1);
            edge.due("found(" + n + ")", x.found(n), LOST);
            edge.due("tell(" + n + ")", x.tell(n), -1);
            edge.due("address(" + n + ")", x.address(n), -1);
            edge.due("answer(0, " + n + ")", x.answer(0, n, 0), -1);
            edge.due("part of field " + n, x.part(1, n, 0, 0), -1);
            edge.due("part of part " + n, x.part(9, n, n, n), -1);
        }
        edge.due("trace", x.trace(), 0);
        edge.due("tried", x.tried(), 0);
    }

    private void newObjectByDrafts() {
        ThinkingForm x = new ThinkingForm();
        for (int n : WILD) {
            boolean draft = n >= 0 && n <= 3;
            edge.due("done(" + n + ")", x.done(n), draft ? 1 : -1);
            edge.due("copy(" + n + ", 3)", x.copy(n, 3), draft ? 0 : -1);
            edge.due("join(0, 1, 2, " + n + ")", x.join(0, 1, 2, n), draft ? 0 : -1);
            edge.due("seal(" + n + ", 1)", x.seal(n, 1), draft ? -2 : -1);
            boolean counted = n >= 0 && n <= 5 || n >= 10 && n <= 13;
            edge.due("told(" + n + ")", x.told(n), counted ? 0 : -2);
        }
    }

    private void newObjectByPairs() {
        for (int n : WILD) {
            ThinkingForm x = new ThinkingForm();
            for (int m : WILD) {
                String pair = "(" + n + ", " + m + ")";
                edge.due("rule" + pair, x.rule(n, 0, m), -1);
                edge.due("about" + pair, x.about(n, m), -1);
                edge.due("hangs" + pair, x.hangs(n, m), -1);
                edge.due("clear" + pair, x.clear(n, m), -1);
                edge.due("kept" + pair, x.kept(n, m), LOST);
                edge.due("counts" + pair, x.counts(n, m), LOST);
                edge.due("status" + pair, x.status(n, m), -1);
                edge.due("value" + pair, x.value(n, m), LOST);
                edge.due("sealed" + pair, x.sealed(n, m), -1);
            }
        }
    }

    private void field() {
        edge.of(2, "A FIELD more: its number.");
        ThinkingForm x = new ThinkingForm();
        for (int f = 0; f < 12; f++) {
            edge.due("field " + f, x.field(0, 9, 0), f);
            edge.due("one more", x.told(0), f + 1);
            edge.due("hangs on none", x.about(f, 7), 0);
            edge.due("has no answer", x.kept(3, f), LOST);
            edge.due("is shown at once", x.status(3, f), 1);
            x.answer(3, f, 1);
            edge.due("its answer counts at once", x.counts(3, f), 1);
        }
    }

    private void fieldOutside() {
        ThinkingForm x = new ThinkingForm();
        edge.of(2, "OUTSIDE: ends,");
        edge.due("low -1000", x.field(-1000, 0, 0), 0);
        edge.due("low -1001", x.field(-1001, 0, 0), -2);
        edge.due("low far below", x.field(LOW, 0, 0), -2);
        edge.due("high 1000", x.field(0, 1000, 0), 1);
        edge.due("high 1001", x.field(0, 1001, 0), -2);
        edge.due("high far above", x.field(0, TOP, 0), -2);
        edge.due("low 1000", x.field(1000, 1000, 0), 2);
        edge.due("low 1001", x.field(1001, 1001, 0), -2);
        edge.due("high -1000", x.field(-1000, -1000, 0), 3);
        edge.due("high -1001", x.field(-1001, -1001, 0), -2);
        edge.of(2, "low is above high,");
        edge.due("as high", x.field(1, 1, 0), 4);
        edge.due("one above", x.field(2, 1, 0), -2);
        edge.due("as high, below 0", x.field(-1, -1, 0), 5);
        edge.due("one above, below 0", x.field(-1, -2, 0), -2);
        edge.due("farthest above", x.field(1000, -1000, 0), -2);
        edge.of(2, "kind;");
        edge.due("-1", x.field(0, 0, -1), -2);
        edge.due("0", x.field(0, 0, 0), 6);
        edge.due("1", x.field(0, 0, 1), 7);
        edge.due("2", x.field(0, 0, 2), -2);
        edge.due("far below", x.field(0, 0, LOW), -2);
        edge.due("far above", x.field(0, 0, TOP), -2);
        edge.due("none of those refused is there", x.told(0), 8);
    }

    private void fieldFull() {
        edge.of(2, "FULL.");
        ThinkingForm x = Forms.withAnswers(11, 0);
        edge.due("the twelfth", x.field(-5, 5, 1), 11);
        for (int again = 0; again < 3; again++) {
            edge.due("a thirteenth", x.field(0, 9, 0), -4);
        }
        edge.due("twelve", x.told(0), 12);
        edge.due("the twelfth stays", x.about(11, 0), -5);
    }

    private void part() {
        edge.of(3, "A PART more: its number.");
        ThinkingForm x = new ThinkingForm();
        x.field(0, 9, 0);
        x.part(0, 6, 0, 0);
        for (int kind = 0; kind <= 11; kind++) {
            edge.due("kind " + kind, x.part(kind, 0, 0, 0), kind + 1);
            edge.due("one more", x.told(1), kind + 2);
        }
    }

    private void partUnknown() {
        edge.of(3, "UNKNOWN: FIELDS, PARTS that it is of");
        ThinkingForm x = Forms.withAnswers(2, 0);
        x.part(0, 0, 0, 0);
        for (int none : new int[] {LOW, -9, -1, 2, 12, TOP}) {
            edge.due("1 of FIELD " + none, x.part(1, none, 0, 0), -1);
            edge.due("10 of FIELD " + none, x.part(10, none, 0, 0), -1);
        }
        for (int none : new int[] {LOW, -9, -1, 3, 50, TOP}) {
            for (int kind = 2; kind <= 8; kind++) {
                edge.due("a of " + kind + " is " + none, x.part(kind, none, 0, 0), -1);
                edge.due("b of " + kind + " is " + none, x.part(kind, 0, none, 0), -1);
            }
            edge.due("a of 9 is " + none, x.part(9, none, 0, 0), -1);
            edge.due("a of 11 is " + none, x.part(11, none, 0, 0), -1);
            edge.due("b of 11 is " + none, x.part(11, 0, none, 0), -1);
            edge.due("c of 11 is " + none, x.part(11, 0, 0, none), -1);
        }
        edge.due("1 of the last FIELD", x.part(1, 1, 0, 0), 3);
        edge.due("10 of the last FIELD", x.part(10, 1, 0, 0), 4);
        edge.due("11 of the last PART", x.part(11, 4, 4, 4), 5);
    }

    private void partNotLookedAt() {
        edge.of(3, "(what it is not of is not looked at);");
        ThinkingForm x = Forms.withAnswers(1, 0);
        int next = 1;
        for (int wild : new int[] {LOW, -1, 50, TOP}) {
            edge.due("b, c of 0", x.part(0, 5, wild, wild), next++);
            edge.due("b, c of 1", x.part(1, 0, wild, wild), next++);
            for (int kind = 2; kind <= 8; kind++) {
                edge.due("c of " + kind, x.part(kind, 0, 0, wild), next++);
            }
            edge.due("b, c of 9", x.part(9, 0, wild, wild), next++);
            edge.due("b, c of 10", x.part(10, 0, wild, wild), next++);
            edge.due("a, b, c of a kind that is none", x.part(12, wild, wild, wild), -2);
        }
        x.answer(0, 0, 7);
        for (int p = 1; p < next; p++) {
            edge.due("its value is there", x.value(0, p) == LOST ? 0 : 1, 1);
        }
    }

    private void partOutside() {
        ThinkingForm x = new ThinkingForm();
        edge.of(3, "OUTSIDE: kind;");
        for (int kind : new int[] {LOW, -9, -1, 12, 13, TOP}) {
            edge.due("kind " + kind, x.part(kind, 0, 0, 0), -2);
        }
        edge.due("kind 0", x.part(0, 0, 0, 0), 0);
        edge.due("kind 11", x.part(11, 0, 0, 0), 1);
        edge.of(3, "of 0 a is not -1000000 .. 1000000;");
        edge.due("-1000001", x.part(0, -1000001, 0, 0), -2);
        edge.due("-1000000", x.part(0, -1000000, 0, 0), 2);
        edge.due("1000000", x.part(0, 1000000, 0, 0), 3);
        edge.due("1000001", x.part(0, 1000001, 0, 0), -2);
        edge.due("far below", x.part(0, LOW, 0, 0), -2);
        edge.due("far above", x.part(0, TOP, 0, 0), -2);
        edge.due("what LOST is", x.part(0, LOST, 0, 0), -2);
        edge.due("none of those refused is there", x.told(1), 4);
    }

    private void partFull() {
        edge.of(3, "FULL.");
        ThinkingForm x = Forms.withAnswers(12, 0);
        while (x.told(1) < 49) {
            x.part(0, 0, 0, 0);
        }
        edge.due("the fiftieth", x.part(0, -7, 0, 0), 49);
        for (int kind = 0; kind <= 11; kind++) {
            edge.due("a fifty-first of kind " + kind, x.part(kind, 0, 0, 0), -4);
        }
        edge.due("fifty", x.told(1), 50);
        edge.due("the fiftieth stays", x.value(0, 49), -7);
        edge.due("a rule by the fiftieth", x.rule(11, 0, 49), 1);
        edge.due("a rule by a fifty-first", x.rule(11, 0, 50), -1);
    }

    private void rule() {
        edge.of(4, "RULE which of a FIELD becomes a PART (-9: none): 1.");
        ThinkingForm x = Forms.withAnswers(12, 1);
        while (x.told(1) < 50) {
            x.part(0, 0, 0, 0);
        }
        for (int which = 0; which <= 3; which++) {
            edge.due("none in place of none", x.rule(11, which, -9), 1);
            edge.due("the first part", x.rule(11, which, 0), 1);
            edge.due("it is so", x.about(11, 3 + which), 0);
            edge.due("the last part", x.rule(11, which, 49), 1);
            edge.due("it is so", x.about(11, 3 + which), 49);
            edge.due("the same again", x.rule(11, which, 49), 1);
            edge.due("none", x.rule(11, which, -9), 1);
            edge.due("it is so", x.about(11, 3 + which), -9);
        }
        for (int which = 0; which <= 3; which++) {
            x.rule(0, which, 20 + which);
        }
        for (int which = 0; which <= 3; which++) {
            edge.due("each has its own", x.about(0, 3 + which), 20 + which);
        }
    }

    private void ruleUnknown() {
        edge.of(4, "UNKNOWN: FIELD, PART;");
        ThinkingForm x = Forms.withAnswers(2, 1);
        x.part(0, 1, 0, 0);
        for (int which = 0; which <= 3; which++) {
            for (int none : new int[] {LOW, -9, -1, 2, 12, TOP}) {
                edge.due("FIELD " + none, x.rule(none, which, 2), -1);
                edge.due("FIELD " + none + " and none", x.rule(none, which, -9), -1);
            }
            for (int none : new int[] {LOW, -10, -8, -1, 3, 50, TOP}) {
                edge.due("PART " + none, x.rule(1, which, none), -1);
            }
            edge.due("the last of both", x.rule(1, which, 2), 1);
        }
    }

    private void ruleOutside() {
        edge.of(4, "OUTSIDE: which, 3 of one that is not MADE;");
        ThinkingForm x = new ThinkingForm();
        x.field(0, 9, 0);
        x.field(0, 9, 1);
        x.part(0, 1, 0, 0);
        for (int f = 0; f <= 1; f++) {
            for (int which : new int[] {LOW, -9, -1, 4, TOP}) {
                edge.due("which is " + which, x.rule(f, which, 0), -2);
                edge.due("which is " + which + ", none", x.rule(f, which, -9), -2);
            }
            edge.due("0", x.rule(f, 0, 0), 1);
            edge.due("2", x.rule(f, 2, 0), 1);
        }
        edge.due("3 of one that is MADE", x.rule(1, 3, 0), 1);
        edge.due("3 of one that is not", x.rule(0, 3, 0), -2);
        edge.due("3, none, of one that is not", x.rule(0, 3, -9), -2);
        edge.due("it has none", x.about(0, 6), -9);
    }

    private void ruleState() {
        edge.of(4, "STATE: there would be a RING (which ring() tells).");
        ThinkingForm x = Forms.withAnswers(3, 1);
        edge.due("0 by 1", x.rule(0, 0, 1), 1);
        edge.due("1 by 2", x.rule(1, 3, 2), 1);
        edge.due("2 by 0", x.rule(2, 0, 0), -3);
        edge.due("ring() tells it", x.ring(0), 2);
        edge.due("it changes nothing", x.about(2, 3), -9);
        edge.due("it changes nothing", x.about(2, 7), 0);
        edge.due("2 needs 0", x.rule(2, 1, 0), 1);
        edge.due("2 is right by 0", x.rule(2, 2, 0), 1);
        edge.due("without the middle", x.rule(1, 3, -9), 1);
        edge.due("2 by 0 is no ring then", x.rule(2, 0, 0), 1);
        edge.due("the middle again is one", x.rule(1, 3, 2), -3);
        edge.due("2 by 1 in place of 0", x.rule(2, 0, 1), 1);
        edge.due("1 by 2 is one still", x.rule(1, 3, 2), -3);
    }

    private void ringLatest() {
        edge.of(5, "FIELD i of the RING that the latest rule() would have made that was refused so:");
        ThinkingForm x = Forms.withAnswers(4, 0);
        x.rule(1, 0, 0);
        x.rule(2, 0, 1);
        edge.due("a ring of three", x.rule(0, 0, 2), -3);
        dueRing(x, 0, 2, 1);
        edge.due("a rule that is taken", x.rule(3, 0, 2), 1);
        edge.due("one that is UNKNOWN", x.rule(4, 0, 2), -1);
        edge.due("one that is OUTSIDE", x.rule(3, 3, 2), -2);
        edge.due("an end of what it was made of", x.rule(1, 0, -9), 1);
        dueRing(x, 0, 2, 1);
        edge.due("a ring of one", x.rule(3, 0, 3), -3);
        dueRing(x, 3);
        edge.due("a ring of two", x.rule(2, 0, 3), -3);
        dueRing(x, 2, 3);
    }

    private void ringFromItsField() {
        edge.of(5, "from its FIELD on;");
        for (int f = 0; f < 12; f++) {
            ThinkingForm x = Forms.withAnswers(12, 0);
            for (int i = 1; i < 12; i++) {
                x.rule((f + i) % 12, 0, (f + i + 1) % 12);
            }
            edge.due("a ring of twelve", x.rule(f, 0, (f + 1) % 12), -3);
            for (int i = 0; i < 12; i++) {
                edge.due("place " + i + " from " + f, x.ring(i), (f + i) % 12);
            }
            edge.due("no thirteenth", x.ring(12), -1);
        }
    }

    private void ringNextByShowOrMake() {
        edge.of(5, "the next one is always one whose ANSWER the SHOW or MAKE of the one ahead is of:");
        for (int which = 0; which <= 3; which += 3) {
            ThinkingForm x = Forms.withAnswers(4, 1);
            x.rule(3, 3 - which, 1);
            x.rule(1, which, x.part(10, 2, 0, 0));
            edge.due("the last way", x.rule(2, 3 - which, 3), -3);
            dueRing(x, 2, 3, 1);
        }
        ThinkingForm x = Forms.withAnswers(3, 1);
        x.rule(0, 1, 1);
        x.rule(0, 2, 1);
        x.rule(2, 0, 0);
        edge.due("NEED and RIGHT are no way", x.rule(1, 0, 2), 1);
        edge.due("SHOW is one", x.rule(0, 0, 1), -3);
        dueRing(x, 0, 1, 2);
        x.rule(0, 0, 0);
        dueRing(x, 0);
        ThinkingForm y = Forms.withAnswers(3, 1);
        y.rule(1, 0, 0);
        y.rule(0, 0, 2);
        edge.due("a MAKE beside a SHOW that stays", y.rule(0, 3, 1), -3);
        dueRing(y, 0, 1);
    }

    private void ringEnds() {
        edge.of(5, "the RING ends, if that is the first one;");
        ThinkingForm x = Forms.withAnswers(4, 0);
        x.rule(0, 0, 3);
        x.rule(1, 0, x.part(2, 0, 3, 0));
        edge.due("1 is of 0 and of 3 itself, 0 is a way to 3 too", x.rule(3, 0, 1), -3);
        dueRing(x, 3, 1);
        edge.due("of itself and of others", x.rule(3, 0, x.part(2, 1, 3, 0)), -3);
        dueRing(x, 3);
    }

    private void ringLeast() {
        edge.of(5, "else it is the least that is not in the RING yet,");
        ThinkingForm x = Forms.withAnswers(12, 0);
        x.rule(2, 0, 5);
        x.rule(7, 0, 5);
        x.rule(11, 0, 5);
        edge.due("5 by 11, 2, 7", x.rule(5, 0, x.part(2, 11, x.part(2, 2, 7, 0), 0)), -3);
        dueRing(x, 5, 2);
        edge.due("5 by 11, 7", x.rule(5, 0, x.part(2, 11, 7, 0)), -3);
        dueRing(x, 5, 7);
        x.rule(7, 0, 11);
        x.rule(2, 0, x.part(7, 11, 7, 0));
        edge.due("the least, though it is a longer way", x.rule(5, 0, x.part(8, 11, 2, 0)), -3);
        dueRing(x, 5, 2, 7, 11);
    }

    private void ringComesBack() {
        edge.of(5, "and from which one comes so to the first one by such that are not.");
        ThinkingForm x = Forms.withAnswers(6, 0);
        x.rule(1, 0, 0);
        x.rule(3, 0, 5);
        x.rule(5, 0, x.part(2, 0, 4, 0));
        edge.due("0 and 1 are less than 3 but do not come back", x.rule(4, 0, x.part(2, 1, x.part(2, 0, 3, 0), 0)), -3);
        dueRing(x, 4, 3, 5);
        x.rule(5, 0, x.part(2, 1, 2, 0));
        x.rule(2, 0, 4);
        edge.due("1 is less than 2 but does not come back", x.rule(4, 0, 3), -3);
        dueRing(x, 4, 3, 5, 2);
    }

    private void ringUnknown() {
        edge.of(5, "UNKNOWN: there was none (yet), no such place.");
        ThinkingForm x = Forms.withAnswers(2, 0);
        edge.due("none yet", x.ring(0), -1);
        x.rule(0, 0, 1);
        x.rule(5, 0, 1);
        x.rule(0, 3, 1);
        edge.due("none by rules that are taken or refused otherwise", x.ring(0), -1);
        edge.due("one", x.rule(1, 0, 0), -3);
        dueRing(x, 1, 0);
        for (int none : new int[] {LOW, -9, -1, 2, 12, TOP}) {
            edge.due("place " + none, x.ring(none), -1);
        }
    }

    private void dueRing(ThinkingForm x, int... fields) {
        for (int i = 0; i < fields.length; i++) {
            edge.due("ring(" + i + ")", x.ring(i), fields[i]);
        }
        edge.due("its end", x.ring(fields.length), -1);
    }

    private void about() {
        edge.of(6, "Of a FIELD: 0 low, 1 high, 2 kind,");
        ThinkingForm x = new ThinkingForm();
        for (int f = 0; f < 12; f++) {
            x.field(f - 1000, 1000 - f, f % 2);
        }
        for (int f = 0; f < 12; f++) {
            edge.due("low of " + f, x.about(f, 0), f - 1000);
            edge.due("high of " + f, x.about(f, 1), 1000 - f);
            edge.due("kind of " + f, x.about(f, 2), f % 2);
        }
        edge.of(6, "3 .. 6 its RULES (NONE),");
        x.part(0, 1, 0, 0);
        x.part(0, 1, 0, 0);
        for (int what = 3; what <= 6; what++) {
            edge.due("at first " + what, x.about(11, what), -9);
            x.rule(11, what - 3, 1);
            edge.due("then " + what, x.about(11, what), 1);
            edge.due("of another " + what, x.about(9, what), -9);
        }
    }

    private void aboutHangs() {
        ThinkingForm x = Forms.withAnswers(12, 0);
        for (int f = 1; f < 12; f++) {
            x.rule(f, 0, f - 1);
        }
        edge.of(6, "7 on how many it HANGS,");
        edge.due("none", x.about(0, 7), 0);
        edge.due("one", x.about(1, 7), 1);
        edge.due("all others", x.about(11, 7), 11);
        x.rule(6, 0, -9);
        edge.due("none, cut in the middle", x.about(6, 7), 0);
        edge.due("those behind it", x.about(11, 7), 5);
        edge.of(6, "8 how many HANG ON it.");
        edge.due("those ahead of the cut", x.about(0, 8), 5);
        x.rule(6, 0, 5);
        edge.due("all others", x.about(0, 8), 11);
        edge.due("one", x.about(10, 8), 1);
        edge.due("none", x.about(11, 8), 0);
        x.rule(11, 0, x.part(2, 0, 10, 0));
        edge.due("by two ways one is still one", x.about(0, 8), 11);
        ThinkingForm y = Forms.withAnswers(12, 0);
        for (int f = 0; f < 11; f++) {
            y.rule(f, 0, f + 1);
        }
        edge.due("all others on the last", y.about(11, 8), 11);
        edge.due("the first alone", y.about(1, 8), 1);
    }

    private void aboutRefused() {
        edge.of(6, "UNKNOWN; OUTSIDE.");
        ThinkingForm x = Forms.withAnswers(2, 0);
        for (int none : new int[] {LOW, -9, -1, 2, 12, TOP}) {
            edge.due("FIELD " + none, x.about(none, 0), -1);
            edge.due("FIELD " + none + ", what 9", x.about(none, 9), -1);
        }
        for (int other : new int[] {LOW, -9, -1, 9, 10, TOP}) {
            edge.due("what " + other, x.about(1, other), -2);
        }
        edge.due("the last of both", x.about(1, 8), 0);
    }

    private void hangs() {
        edge.of(7, "Whether FIELD f HANGS ON g: 1, 0.");
        ThinkingForm x = Forms.withAnswers(12, 0);
        for (int f = 1; f < 12; f++) {
            x.rule(f, 0, f - 1);
        }
        for (int f = 0; f < 12; f++) {
            for (int g = 0; g < 12; g++) {
                edge.due("hangs(" + f + ", " + g + ")", x.hangs(f, g), g < f ? 1 : 0);
            }
        }
        edge.of(7, "UNKNOWN.");
        ThinkingForm y = Forms.withAnswers(11, 0);
        for (int none : new int[] {LOW, -9, -1, 11, 12, TOP}) {
            edge.due("f is " + none, y.hangs(none, 10), -1);
            edge.due("g is " + none, y.hangs(10, none), -1);
            edge.due("both are " + none, y.hangs(none, none), -1);
        }
        edge.due("the last of both", y.hangs(10, 10), 0);
    }
}
