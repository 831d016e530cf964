/** Promises 21 to 27: trials, counts, tellings and their trace. */
public final class TrialsTest {
    private static final int LOW = Integer.MIN_VALUE, TOP = Integer.MAX_VALUE;
    private static final int LOST = -2000000000;
    private static final Check check = new Check("TrialsTest");

    public static void main(String[] args) {
        reachWithoutShow();
        reachByRows();
        reachNone();
        reachByNoAnswer();
        reachThroughMade();
        reachLeavesDrafts();
        spent();
        spentChangesNothing();
        told();
        tell();
        address();
        traceWraps();
        check.end();
    }

    private static void reachWithoutShow() {
        ThinkingForm x = new ThinkingForm();
        x.field(0, 9, 0);
        check.due("always shown", x.reach(0), 1);
        check.due("by the only row", x.tried(), 1);
        check.due("which has no answer", x.found(0), LOST);
        x.part(0, 0, 0, 0);
        x.part(0, 2, 0, 0);
        x.rule(0, 0, 0);
        check.due("never shown", x.reach(0), 0);
        check.due("by the only row", x.tried(), 1);
        x.rule(0, 0, 1);
        check.due("shown by a number", x.reach(0), 1);
        for (int wild : new int[] {LOW, -1, 1, TOP}) {
            check.due("reach " + wild, x.reach(wild), -1);
            check.due("found " + wild, x.found(wild), LOST);
        }
        check.due("an unknown one is no trial", x.tried(), 1);
    }

    /** Field 2 is shown by 10 times field 0, and field 1, being 12. */
    private static ThinkingForm sumForm() {
        ThinkingForm x = new ThinkingForm();
        x.field(0, 2, 0);
        x.field(-1, 2, 0);
        x.field(0, 1, 0);
        x.part(1, 0, 0, 0);
        x.part(1, 1, 0, 0);
        x.part(0, 10, 0, 0);
        x.part(4, 0, 2, 0);
        x.part(2, 3, 1, 0);
        x.part(0, 12, 0, 0);
        x.part(5, 4, 5, 0);
        x.rule(2, 0, 6);
        return x;
    }

    private static void reachByRows() {
        ThinkingForm x = sumForm();
        check.due("1 and 2 show it", x.reach(2), 1);
        check.due("none, 0, 1 of 5 each, the last", x.tried(), 15);
        check.due("field 0", x.found(0), 1);
        check.due("field 1", x.found(1), 2);
        check.due("field 2", x.found(2), LOST);
        check.due("a trial for another", x.reach(0), 1);
        check.due("has a row of its own", x.found(1), LOST);
        check.due("has a row of its own", x.tried(), 1);
    }

    private static void reachNone() {
        ThinkingForm x = sumForm();
        x.reach(2);
        x.rule(2, 0, x.part(5, 4, x.part(0, 13, 0, 0), 0));
        check.due("13 is not to be had", x.reach(2), 0);
        check.due("all rows", x.tried(), 20);
        for (int f = 0; f < 3; f++) {
            check.due("no row was found", x.found(f), LOST);
        }
    }

    private static void reachByNoAnswer() {
        ThinkingForm x = sumForm();
        int without = x.part(9, x.part(10, 1, 0, 0), 0, 0);
        x.rule(2, 0, x.part(7, without, 0, 0));
        check.due("field 0 not 0, field 1 without an answer", x.reach(2), 1);
        check.due("none ahead of the span", x.tried(), 11);
        check.due("field 0", x.found(0), 1);
        check.due("field 1", x.found(1), LOST);
    }

    private static void reachThroughMade() {
        ThinkingForm x = new ThinkingForm();
        x.field(0, 5, 0);
        x.field(4, 4, 1);
        x.field(0, 1, 0);
        x.field(0, 1, 1);
        x.part(1, 0, 0, 0);
        x.part(2, 0, 0, 0);
        x.part(1, 1, 0, 0);
        x.rule(1, 3, 1);
        x.rule(2, 0, 2);
        check.due("twice 2 is in the span", x.reach(2), 1);
        check.due("none, 0, 1, 2", x.tried(), 4);
        check.due("field 0", x.found(0), 2);
        check.due("a made one is not in the row", x.found(1), LOST);
        x.field(0, 9, 0);
        x.part(1, 4, 0, 0);
        x.rule(3, 3, 3);
        x.rule(3, 0, 2);
        check.due("what its make is of turns too", x.reach(3), 1);
        check.due("three times 11 and one", x.tried(), 34);
        check.due("field 4", x.found(4), LOST);
    }

    private static void reachLeavesDrafts() {
        ThinkingForm x = sumForm();
        x.answer(0, 0, 2);
        x.seal(0, 1);
        check.due("answers of drafts do not matter", x.reach(2), 1);
        check.due("answers of drafts do not matter", x.tried(), 15);
        check.due("drafts stay", x.kept(0, 0), 2);
        check.due("drafts stay", x.kept(0, 1), LOST);
        check.due("what was found stays", x.answer(0, 1, 0), 1);
        check.due("what was found stays", x.found(1), 2);
        check.due("another field later", x.field(0, 1, 0), 3);
        check.due("is not in the row", x.found(3), LOST);
        ThinkingForm y = new ThinkingForm();
        y.field(0, 1, 0);
        check.due("nothing is found ahead of any", y.found(0), LOST);
    }

    private static void spent() {
        ThinkingForm x = Forms.neverShown(100, 200);
        check.due("20000 rows", x.reach(2), 0);
        check.due("20000 rows", x.tried(), 20000);
        x = Forms.neverShown(100, 200, 2);
        check.due("40000 rows", x.reach(3), -6);
        x = Forms.neverShown(177, 113);
        check.due("20001 rows", x.reach(2), -6);
        check.due("20001 rows", x.tried(), 0);
        x = Forms.neverShown(1002, 1002, 1002, 1002, 1002, 1002, 1002, 1002, 1002, 1002, 1002);
        check.due("rows beyond all numbers", x.reach(11), -6);
        x = Forms.neverShown(2, 2, 2, 2, 2, 2, 2, 2, 2, 2, 2);
        check.due("2048 rows", x.reach(11), 0);
        check.due("2048 rows", x.tried(), 2048);
        ThinkingForm y = new ThinkingForm();
        y.field(-1000, 1000, 0);
        y.field(-1000, 1000, 0);
        y.field(0, 1, 1);
        y.rule(2, 3, y.part(2, y.part(1, 0, 0, 0), y.part(1, 1, 0, 0), 0));
        check.due("spent, though the first row would show it", y.reach(2), -6);
        y.rule(2, 3, 0);
        check.due("the first row shows it", y.reach(2), 1);
        check.due("the first row shows it", y.tried(), 1);
    }

    private static void spentChangesNothing() {
        ThinkingForm x = sumForm();
        x.reach(2);
        int wide = x.field(-1000, 1000, 0);
        int wider = x.field(-1000, 1000, 0);
        int far = x.field(0, 1, 0);
        x.rule(far, 0, x.part(8, x.part(1, wide, 0, 0), x.part(1, wider, 0, 0), 0));
        check.due("spent", x.reach(far), -6);
        check.due("the row that was found stays", x.found(1), 2);
        check.due("the rows that were tried stay", x.tried(), 15);
    }

    private static void told() {
        ThinkingForm x = new ThinkingForm();
        x.field(0, 9, 0);
        x.field(0, 9, 1);
        x.field(0, 9, 0);
        x.part(1, 0, 0, 0);
        x.rule(1, 3, 0);
        x.answer(0, 0, 1);
        x.answer(1, 0, 2);
        x.answer(2, 0, 3);
        x.answer(2, 2, 3);
        x.rule(2, 0, x.part(0, 0, 0, 0));
        x.join(0, 1, 2, 3);
        x.seal(3, 1);
        x.seal(3, 2);
        x.open(0);
        int[] want = {3, 2, 2, 2, 1, 1};
        for (int what = 0; what <= 5; what++) {
            check.due("told(" + what + ")", x.told(what), want[what]);
        }
        int[] kept = {1, 1, 2, 2};
        for (int d = 0; d < 4; d++) {
            check.due("hidden ones too, made ones not, in " + d, x.told(10 + d), kept[d]);
        }
        for (int wild : new int[] {LOW, LOW + 10, -1, 6, 9, 14, TOP}) {
            check.due("told(" + wild + ")", x.told(wild), -2);
        }
    }

    private static void tell() {
        ThinkingForm x = new ThinkingForm();
        x.field(-3, 4, 0);
        x.field(1, 6, 1);
        x.part(0, 0, 0, 0);
        check.due("asked", x.tell(0), 7);
        check.due("body 1", x.trace(), 1);
        check.due("made", x.tell(1), 1005);
        int trail = (31 + 2) * 31 + 1;
        check.due("bodies 2, 1", x.trace(), trail);
        x.rule(0, 1, 0);
        x.rule(1, 1, 0);
        check.due("asked, with a need", x.tell(0), 14);
        trail = (trail * 31 + 3) * 31 + 1;
        check.due("bodies 3, 1", x.trace(), trail);
        check.due("made, with a need", x.tell(1), 2010);
        trail = ((trail * 31 + 3) * 31 + 2) * 31 + 1;
        check.due("bodies 3, 2, 1", x.trace(), trail);
        x.rule(0, 1, -9);
        x.rule(0, 0, 0);
        x.rule(0, 2, 0);
        check.due("without a need again", x.tell(0), 7);
        trail = trail * 31 + 1;
        check.due("body 1", x.trace(), trail);
        for (int wild : new int[] {LOW, -1, 2, TOP}) {
            check.due("tell " + wild, x.tell(wild), -1);
        }
        check.due("no body began", x.trace(), trail);
    }

    private static void address() {
        ThinkingForm x = new ThinkingForm();
        for (int f = 0; f < 12; f++) {
            x.field(0, 1, f == 4 || f == 5 ? 1 : 0);
        }
        x.part(0, 1, 0, 0);
        x.rule(5, 1, 0);
        x.rule(11, 1, 0);
        int trail = 0;
        for (int f = 0; f < 12; f++) {
            boolean made = f == 4 || f == 5;
            check.due("address " + f, x.address(f), made ? 5 : 10 * f);
            trail = trail * 31 + (made ? 5 : 4);
            check.due("body of address " + f, x.trace(), trail);
        }
        for (int wild : new int[] {LOW, -1, 12, TOP}) {
            check.due("address " + wild, x.address(wild), -1);
        }
        check.due("no body began", x.trace(), trail);
    }

    private static void traceWraps() {
        ThinkingForm x = new ThinkingForm();
        x.field(0, 1, 0);
        int trail = 0;
        boolean below = false;
        for (int i = 0; i < 20; i++) {
            x.tell(0);
            trail = trail * 31 + 1;
            below |= trail < 0;
            check.due("trace after " + (i + 1), x.trace(), trail);
        }
        check.due("it wrapped", below ? 1 : 0, 1);
    }
}
