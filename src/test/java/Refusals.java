/** Of several refusals the first is told, and none changes anything. */
final class Refusals {
    private static final int LOST = Edge.LOST;
    private static final int UNKNOWN = -1, OUTSIDE = -2, STATE = -3, FULL = -4, SPENT = -6;

    private final Edge edge;

    Refusals(Edge edge) {
        this.edge = edge;
    }

    void run() {
        orderOfFieldsAndParts();
        orderOfRules();
        orderOfAnswers();
        orderOfDraftsAndSeals();
        roomyFormRefuses();
        fullFormRefuses();
    }

    private void orderOfFieldsAndParts() {
        edge.of(0, "of several the first in the order in which a call's line tells them.");
        ThinkingForm x = new ThinkingForm();
        Twins.fill(x);
        edge.due("field: ends, FULL", x.field(-1001, 0, 0), OUTSIDE);
        edge.due("field: low above high, FULL", x.field(1, 0, 0), OUTSIDE);
        edge.due("field: kind, FULL", x.field(0, 1, 2), OUTSIDE);
        edge.due("part: FIELD, FULL", x.part(1, 12, 0, 0), UNKNOWN);
        edge.due("part: PART a, FULL", x.part(9, 50, 0, 0), UNKNOWN);
        edge.due("part: PART b, FULL", x.part(2, 0, 50, 0), UNKNOWN);
        edge.due("part: PART c, FULL", x.part(11, 0, 0, 50), UNKNOWN);
        edge.due("part: kind, FULL", x.part(12, 50, 50, 50), OUTSIDE);
        edge.due("part: number, FULL", x.part(0, 1000001, 0, 0), OUTSIDE);
        edge.due("about: FIELD, what", x.about(12, 9), UNKNOWN);
    }

    private void orderOfRules() {
        ThinkingForm x = Forms.withAnswers(2, 0);
        edge.due("rule: FIELD, PART, which", x.rule(2, 4, 9), UNKNOWN);
        edge.due("rule: FIELD, which", x.rule(2, 4, 0), UNKNOWN);
        edge.due("rule: PART, which", x.rule(0, 4, 2), UNKNOWN);
        edge.due("rule: PART, 3 of one that is not MADE", x.rule(0, 3, 2), UNKNOWN);
        edge.due("rule: which, and a part of its own", x.rule(0, 4, 0), OUTSIDE);
        edge.due("rule: 3 of one that is not MADE, and a part of its own", x.rule(0, 3, 0), OUTSIDE);
        edge.due("none of these was a ring", x.ring(0), UNKNOWN);
    }

    private void orderOfAnswers() {
        ThinkingForm x = new ThinkingForm();
        x.field(0, 9, 0);
        x.field(0, 9, 1);
        x.answer(0, 0, 1);
        x.seal(0, 3);
        edge.due("answer: DRAFT, FIELD, span", x.answer(4, 2, 10), UNKNOWN);
        edge.due("answer: DRAFT, MADE", x.answer(4, 1, 1), UNKNOWN);
        edge.due("answer: DRAFT, span", x.answer(4, 0, 10), UNKNOWN);
        edge.due("answer: FIELD, span", x.answer(0, 2, 10), UNKNOWN);
        edge.due("answer: MADE, span", x.answer(0, 1, 10), STATE);
        edge.due("answer: span, LOCKED", x.answer(0, 0, 10), OUTSIDE);
        edge.due("answer: LOCKED", x.answer(0, 0, 9), STATE);
        edge.due("clear: DRAFT, MADE", x.clear(4, 1), UNKNOWN);
        edge.due("clear: FIELD in a DRAFT with a LOCKED one", x.clear(0, 2), UNKNOWN);
    }

    private void orderOfDraftsAndSeals() {
        ThinkingForm x = Forms.withAnswers(1, 0);
        for (int s = 0; s < 6; s++) {
            x.seal(0, 1);
        }
        edge.due("copy: a, LOCKED", x.copy(4, 0), UNKNOWN);
        edge.due("join: a, LOCKED", x.join(4, 1, 2, 0), UNKNOWN);
        edge.due("join: b, LOCKED", x.join(1, -1, 2, 0), UNKNOWN);
        edge.due("join: c, LOCKED", x.join(1, 2, 4, 0), UNKNOWN);
        edge.due("seal: DRAFT, fields, FULL", x.seal(4, 0), UNKNOWN);
        edge.due("seal: DRAFT, FULL", x.seal(4, 1), UNKNOWN);
        edge.due("seal: fields, FULL", x.seal(0, 2), OUTSIDE);
        edge.due("seal: no fields, FULL", x.seal(0, 0), OUTSIDE);
        edge.due("sealed: SEAL, what", x.sealed(6, 4), UNKNOWN);
        edge.due("sealed: SEAL, no such FIELD", x.sealed(-1, 11), UNKNOWN);
    }

    private void roomyFormRefuses() {
        edge.of(0, "They change nothing.");
        Twins roomy = new Twins(edge, false);
        refuseFieldsAndParts(roomy);
        refuseRules(roomy);
        refuseAnswers(roomy);
        refuseDrafts(roomy);
        refuseSeals(roomy);
        refuseTrials(roomy);
    }

    private void refuseFieldsAndParts(Twins twins) {
        twins.refuse(OUTSIDE, "field", -1001, 0, 0);
        twins.refuse(OUTSIDE, "field", 0, 1001, 0);
        twins.refuse(OUTSIDE, "field", 1, 0, 0);
        twins.refuse(OUTSIDE, "field", 0, 1, 2);
        twins.refuse(OUTSIDE, "field", 0, 1, -1);
        twins.refuse(UNKNOWN, "part", 1, 10, 0, 0);
        twins.refuse(UNKNOWN, "part", 10, -1, 0, 0);
        twins.refuse(UNKNOWN, "part", 2, 0, 25, 0);
        twins.refuse(UNKNOWN, "part", 8, -1, 0, 0);
        twins.refuse(UNKNOWN, "part", 9, 25, 0, 0);
        twins.refuse(UNKNOWN, "part", 11, 0, 0, 25);
        twins.refuse(OUTSIDE, "part", 12, 0, 0, 0);
        twins.refuse(OUTSIDE, "part", -1, 0, 0, 0);
        twins.refuse(OUTSIDE, "part", 0, 1000001, 0, 0);
        twins.refuse(OUTSIDE, "part", 0, -1000001, 0, 0);
    }

    private void refuseRules(Twins twins) {
        twins.refuse(UNKNOWN, "rule", 10, 0, 0);
        twins.refuse(UNKNOWN, "rule", -1, 0, -9);
        twins.refuse(UNKNOWN, "rule", 1, 0, 25);
        twins.refuse(UNKNOWN, "rule", 1, 0, -1);
        twins.refuse(OUTSIDE, "rule", 1, 4, -9);
        twins.refuse(OUTSIDE, "rule", 1, -1, -9);
        twins.refuse(OUTSIDE, "rule", 1, 3, -9);
        // The ring that was refused last, so that ring() too tells what it told.
        twins.refuse(STATE, "rule", Twins.RING_RULE);
        twins.refuse(UNKNOWN, "ring", 3);
        twins.refuse(UNKNOWN, "ring", -1);
        twins.refuse(UNKNOWN, "about", 10, 0);
        twins.refuse(OUTSIDE, "about", 0, 9);
        twins.refuse(UNKNOWN, "hangs", 0, 10);
    }

    private void refuseAnswers(Twins twins) {
        twins.refuse(UNKNOWN, "answer", 4, 0, 1);
        twins.refuse(UNKNOWN, "answer", -1, 0, 1);
        twins.refuse(UNKNOWN, "answer", 0, 10, 1);
        twins.refuse(STATE, "answer", 0, 8, 1);
        twins.refuse(OUTSIDE, "answer", 0, 0, 10);
        twins.refuse(OUTSIDE, "answer", 0, 0, -1);
        twins.refuse(STATE, "answer", 3, 0, 9);
        twins.refuse(UNKNOWN, "clear", 4, 0);
        twins.refuse(UNKNOWN, "clear", 0, 10);
        twins.refuse(STATE, "clear", 0, 8);
        twins.refuse(STATE, "clear", 3, 0);
        twins.refuse(LOST, "kept", 4, 0);
        twins.refuse(LOST, "kept", 0, 10);
        twins.refuse(LOST, "counts", 4, 0);
        twins.refuse(LOST, "counts", 0, -1);
        twins.refuse(UNKNOWN, "status", 4, 0);
        twins.refuse(UNKNOWN, "status", 0, 10);
        twins.refuse(UNKNOWN, "done", 4);
        twins.refuse(LOST, "value", 4, 0);
        twins.refuse(LOST, "value", 0, 25);
    }

    private void refuseDrafts(Twins twins) {
        twins.refuse(UNKNOWN, "copy", 4, 2);
        twins.refuse(UNKNOWN, "copy", 0, 4);
        twins.refuse(STATE, "copy", 1, 3);
        twins.refuse(UNKNOWN, "join", 4, 0, 1, 2);
        twins.refuse(UNKNOWN, "join", 0, 4, 1, 2);
        twins.refuse(UNKNOWN, "join", 0, 1, 4, 2);
        twins.refuse(UNKNOWN, "join", 0, 1, 2, 4);
        twins.refuse(STATE, "join", 0, 1, 1, 3);
        twins.refuse(UNKNOWN, "odds", 9);
        twins.refuse(UNKNOWN, "odds", -1);
    }

    private void refuseSeals(Twins twins) {
        twins.refuse(UNKNOWN, "seal", 4, 1);
        twins.refuse(UNKNOWN, "seal", -1, 1);
        twins.refuse(OUTSIDE, "seal", 0, 0);
        twins.refuse(OUTSIDE, "seal", 0, 1 << 10);
        twins.refuse(OUTSIDE, "seal", 0, -1);
        twins.refuse(UNKNOWN, "open", 3);
        twins.refuse(UNKNOWN, "open", -1);
        twins.refuse(UNKNOWN, "sealed", 3, 0);
        twins.refuse(OUTSIDE, "sealed", 0, 4);
        twins.refuse(OUTSIDE, "sealed", 0, 20);
        twins.refuse(OUTSIDE, "sealed", 0, 40);
    }

    private void refuseTrials(Twins twins) {
        twins.refuse(UNKNOWN, "reach", 10);
        twins.refuse(UNKNOWN, "reach", -1);
        twins.refuse(SPENT, "reach", 5);
        twins.refuse(LOST, "found", 10);
        twins.refuse(OUTSIDE, "told", 6);
        twins.refuse(OUTSIDE, "told", 14);
        twins.refuse(UNKNOWN, "tell", 10);
        twins.refuse(UNKNOWN, "tell", -1);
        twins.refuse(UNKNOWN, "address", 10);
        twins.refuse(UNKNOWN, "address", -1);
    }

    private void fullFormRefuses() {
        Twins full = new Twins(edge, true);
        full.refuse(FULL, "field", -7, 7, 0);
        full.refuse(FULL, "field", -7, 7, 1);
        full.refuse(OUTSIDE, "field", 1, 0, 0);
        for (int kind = 0; kind <= 11; kind++) {
            full.refuse(FULL, "part", kind, 3, 2, 1);
        }
        full.refuse(UNKNOWN, "part", 9, 50, 0, 0);
        full.refuse(FULL, "seal", 2, 1);
        full.refuse(FULL, "seal", 3, 4095);
        full.refuse(OUTSIDE, "seal", 3, 4096);
        full.refuse(STATE, "rule", Twins.RING_RULE);
        full.refuse(SPENT, "reach", 5);
        full.refuse(STATE, "copy", 1, 3);
        full.refuse(STATE, "join", 0, 1, 1, 3);
    }
}
