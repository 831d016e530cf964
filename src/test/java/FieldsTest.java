/** Promises 1 to 7: fields, parts, rules, rings, and which fields hang on which. */
public final class FieldsTest {
    private static final int LOW = Integer.MIN_VALUE, TOP = Integer.MAX_VALUE;
    private static final int[] WILD = {LOW, -9, -1, 99, TOP};
    private static final Check check = new Check("FieldsTest");

    public static void main(String[] args) {
        newObject();
        field();
        fieldsFull();
        part();
        partOperands();
        partsFull();
        rule();
        ruleReplaced();
        ring();
        ringLeastOfSeveral();
        ringByMakeAndShow();
        ringPassesDeadEnds();
        ringOfTwelve();
        about();
        hangs();
        check.end();
    }

    private static void newObject() {
        ThinkingForm x = new ThinkingForm();
        for (int what = 0; what <= 5; what++) {
            check.due("new told(" + what + ")", x.told(what), 0);
        }
        for (int d = 0; d < 4; d++) {
            check.due("new told(1" + d + ")", x.told(10 + d), 0);
            check.due("new done", x.done(d), 1);
        }
        check.due("new tried", x.tried(), 0);
        check.due("new trace", x.trace(), 0);
        check.due("new ring", x.ring(0), -1);
        check.due("new odds", x.odds(0), -1);
        check.due("new about", x.about(0, 0), -1);
        check.due("new found", x.found(0), -2000000000);
        check.due("new value", x.value(0, 0), -2000000000);
        check.due("new open", x.open(0), -1);
        check.due("new field has number 0", x.field(0, 0, 0), 0);
        check.due("new part has number 0", x.part(0, 0, 0, 0), 0);
    }

    private static void field() {
        ThinkingForm x = new ThinkingForm();
        check.due("widest", x.field(-1000, 1000, 0), 0);
        check.due("narrowest", x.field(7, 7, 1), 1);
        check.due("at the low end", x.field(-1000, -1000, 0), 2);
        check.due("at the high end", x.field(1000, 1000, 0), 3);
        check.due("low beyond", x.field(-1001, 0, 0), -2);
        check.due("high beyond", x.field(0, 1001, 0), -2);
        check.due("both beyond", x.field(1001, 1001, 0), -2);
        check.due("both beyond below", x.field(-1001, -1001, 0), -2);
        check.due("low above high", x.field(1, 0, 0), -2);
        check.due("kind 2", x.field(0, 1, 2), -2);
        for (int wild : WILD) {
            check.due("wild kind", x.field(0, 1, wild), -2);
        }
        check.due("wild ends", x.field(LOW, TOP, 0), -2);
        check.due("refused ones are none", x.told(0), 4);
        check.due("answer at the low end", x.answer(0, 0, -1000), 0);
        check.due("answer at the high end", x.answer(0, 0, 1000), 0);
    }

    private static void fieldsFull() {
        ThinkingForm x = new ThinkingForm();
        for (int f = 0; f < 12; f++) {
            check.due("field " + f, x.field(0, f, f % 2), f);
        }
        check.due("a thirteenth", x.field(0, 1, 0), -4);
        check.due("OUTSIDE ahead of FULL", x.field(1, 0, 0), -2);
        check.due("OUTSIDE kind ahead of FULL", x.field(0, 1, 2), -2);
        check.due("twelve", x.told(0), 12);
        check.due("the last one is as made", x.about(11, 1), 11);
    }

    private static void part() {
        ThinkingForm x = new ThinkingForm();
        check.due("greatest number", x.part(0, 1000000, LOW, TOP), 0);
        check.due("least number", x.part(0, -1000000, LOW, TOP), 1);
        check.due("number beyond", x.part(0, 1000001, 0, 0), -2);
        check.due("number beyond below", x.part(0, -1000001, 0, 0), -2);
        check.due("wild number", x.part(0, LOW, 0, 0), -2);
        check.due("kind 12", x.part(12, 0, 0, 0), -2);
        check.due("kind -1", x.part(-1, 0, 0, 0), -2);
        check.due("a kind that is none is of nothing", x.part(12, 77, 77, 77), -2);
        check.due("no field yet", x.part(1, 0, 0, 0), -1);
        check.due("no field yet", x.part(10, 0, 0, 0), -1);
        check.due("greatest value", x.value(0, 0), 1000000);
        check.due("least value", x.value(0, 1), -1000000);
        check.due("two parts", x.told(1), 2);
    }

    private static void partOperands() {
        ThinkingForm x = new ThinkingForm();
        x.field(0, 9, 0);
        x.part(0, 4, 0, 0);
        x.part(0, 5, 0, 0);
        for (int wild : WILD) {
            check.due("answer of a wild field", x.part(1, wild, 0, 0), -1);
            check.due("whether a wild field counts", x.part(10, wild, 0, 0), -1);
            check.due("not a wild part", x.part(9, wild, 0, 0), -1);
            for (int kind = 2; kind <= 8; kind++) {
                check.due("wild a of " + kind, x.part(kind, wild, 0, 0), -1);
                check.due("wild b of " + kind, x.part(kind, 0, wild, 0), -1);
            }
            check.due("wild a of 11", x.part(11, wild, 0, 0), -1);
            check.due("wild b of 11", x.part(11, 0, wild, 0), -1);
            check.due("wild c of 11", x.part(11, 0, 0, wild), -1);
        }
        check.due("not of itself", x.part(9, 2, 0, 0), -1);
        check.due("a field more than there is", x.part(1, 1, 0, 0), -1);
        check.due("two parts still", x.told(1), 2);
        check.due("b, c of 1 are not looked at", x.part(1, 0, LOW, TOP), 2);
        for (int kind = 2; kind <= 8; kind++) {
            check.due("c of " + kind + " is not looked at", x.part(kind, 0, 1, LOW), kind + 1);
        }
        check.due("b, c of 9 are not looked at", x.part(9, 0, LOW, TOP), 10);
        check.due("b, c of 10 are not looked at", x.part(10, 0, LOW, TOP), 11);
        check.due("11 of the latest", x.part(11, 11, 10, 9), 12);
        int[] want = {4, 5, -2000000000, 9, -1, 20, 0, 1, 1, 1, 0, 0, 1};
        for (int p = 0; p < want.length; p++) {
            check.due("value of part " + p, x.value(0, p), want[p]);
        }
    }

    private static void partsFull() {
        ThinkingForm x = new ThinkingForm();
        for (int p = 0; p < 50; p++) {
            check.due("part " + p, x.part(0, p, 0, 0), p);
        }
        check.due("a fifty-first", x.part(0, 0, 0, 0), -4);
        check.due("of the last, but full", x.part(9, 49, 0, 0), -4);
        check.due("UNKNOWN ahead of FULL", x.part(9, 50, 0, 0), -1);
        check.due("OUTSIDE ahead of FULL", x.part(12, 0, 0, 0), -2);
        check.due("OUTSIDE number ahead of FULL", x.part(0, 1000001, 0, 0), -2);
        check.due("fifty", x.told(1), 50);
        check.due("the last one is as made", x.value(0, 49), 49);
    }

    private static void rule() {
        ThinkingForm x = new ThinkingForm();
        x.field(0, 9, 0);
        x.field(0, 9, 1);
        x.part(0, 1, 0, 0);
        for (int which = 0; which <= 2; which++) {
            check.due("rule " + which + " of an asked one", x.rule(0, which, 0), 1);
            check.due("rule " + which + " of a made one", x.rule(1, which, 0), 1);
        }
        check.due("make of an asked one", x.rule(0, 3, 0), -2);
        check.due("no make of an asked one", x.rule(0, 3, -9), -2);
        check.due("make of a made one", x.rule(1, 3, 0), 1);
        check.due("which 4", x.rule(1, 4, 0), -2);
        check.due("which -1", x.rule(1, -1, 0), -2);
        for (int wild : new int[] {LOW, -1, 2, TOP}) {
            check.due("wild field", x.rule(wild, 0, 0), -1);
            check.due("wild field with wild which", x.rule(wild, 9, 0), -1);
            check.due("wild part", x.rule(0, 0, wild), -1);
            check.due("wild part with wild which", x.rule(0, 9, wild), -1);
        }
        check.due("part 1 is none", x.rule(0, 0, 1), -1);
        check.due("none", x.rule(1, 3, -9), 1);
        check.due("it is none", x.about(1, 6), -9);
        check.due("others stay", x.about(1, 5), 0);
        check.due("need and right may be of the field itself", x.part(1, 0, 0, 0), 1);
        check.due("need of itself", x.rule(0, 1, 1), 1);
        check.due("right of itself", x.rule(0, 2, 1), 1);
        check.due("show of itself", x.rule(0, 0, 1), -3);
        check.due("a refused one changes nothing", x.about(0, 3), 0);
        check.due("need does not hang", x.about(0, 7), 0);
    }

    private static void ruleReplaced() {
        ThinkingForm x = Forms.withAnswers(3, 1);
        check.due("0 by 1", x.rule(0, 0, 1), 1);
        check.due("1 by 0 is a ring", x.rule(1, 0, 0), -3);
        check.due("0 by 2 in place of 1", x.rule(0, 0, 2), 1);
        check.due("1 by 0 is none now", x.rule(1, 0, 0), 1);
        check.due("0 made of 1 is one", x.rule(0, 3, 1), -3);
        check.due("1 by none", x.rule(1, 0, -9), 1);
        check.due("0 made of 1 is none now", x.rule(0, 3, 1), 1);
        check.due("0 hangs on both", x.about(0, 7), 2);
        check.due("0 by 0", x.rule(0, 0, 0), -3);
        check.due("0 hangs on both still", x.about(0, 7), 2);
    }

    private static void ring() {
        ThinkingForm x = Forms.withAnswers(4, 0);
        check.due("no ring yet", x.ring(0), -1);
        x.rule(1, 0, 0);
        x.rule(2, 0, 1);
        check.due("no ring by rules that are taken", x.ring(0), -1);
        check.due("0 by 2", x.rule(0, 0, 2), -3);
        int[] want = {0, 2, 1};
        for (int i = 0; i < 3; i++) {
            check.due("ring " + i, x.ring(i), want[i]);
        }
        for (int wild : new int[] {LOW, -1, 3, 12, TOP}) {
            check.due("ring " + wild, x.ring(wild), -1);
        }
        x.rule(3, 0, 2);
        x.rule(3, 7, 2);
        x.rule(9, 0, 0);
        check.due("stays by other calls", x.ring(1), 2);
        check.due("1 by 2", x.rule(1, 0, 2), -3);
        check.due("a later ring", x.ring(0), 1);
        check.due("a later ring", x.ring(1), 2);
        check.due("a later ring is shorter", x.ring(2), -1);
        x.part(10, 0, 0, 0);
        check.due("by whether itself counts", x.rule(0, 0, 4), -3);
        check.due("a ring of one", x.ring(0), 0);
        check.due("a ring of one", x.ring(1), -1);
    }

    private static void ringLeastOfSeveral() {
        ThinkingForm x = Forms.withAnswers(6, 0);
        x.rule(5, 0, 0);
        x.rule(4, 0, 5);
        x.rule(3, 0, 4);
        int several = x.part(2, 3, 4, 0);
        several = x.part(2, several, 1, 0);
        check.due("0 by 1, 3, 4", x.rule(0, 0, several), -3);
        int[] want = {0, 3, 4, 5};
        for (int i = 0; i < 4; i++) {
            check.due("least that comes back " + i, x.ring(i), want[i]);
        }
        check.due("its end", x.ring(4), -1);
        int both = x.part(2, 0, 4, 0);
        x.rule(3, 0, both);
        check.due("0 by 1, 3, 4 again", x.rule(0, 0, several), -3);
        check.due("ends as soon as it can", x.ring(1), 3);
        check.due("ends as soon as it can", x.ring(2), -1);
    }

    private static void ringByMakeAndShow() {
        ThinkingForm x = Forms.withAnswers(4, 1);
        x.rule(3, 3, 0);
        x.rule(1, 0, 3);
        check.due("a show and a make", x.rule(0, 3, 1), -3);
        int[] want = {0, 1, 3};
        for (int i = 0; i < 3; i++) {
            check.due("show and make " + i, x.ring(i), want[i]);
        }
        x.rule(2, 0, 0);
        x.rule(0, 0, -9);
        check.due("by 2", x.rule(0, 0, 2), -3);
        check.due("by 2", x.ring(1), 2);
        check.due("by 2", x.ring(2), -1);
    }

    private static void ringPassesDeadEnds() {
        ThinkingForm x = Forms.withAnswers(5, 0);
        int threeOne = x.part(7, 1, 3, 0);
        x.rule(4, 0, threeOne);
        x.rule(3, 0, 2);
        x.rule(1, 0, -9);
        check.due("2 by 4", x.rule(2, 0, 4), -3);
        int[] want = {2, 4, 3};
        for (int i = 0; i < 3; i++) {
            check.due("1 does not come back " + i, x.ring(i), want[i]);
        }
        check.due("its end", x.ring(3), -1);
    }

    private static void ringOfTwelve() {
        ThinkingForm x = Forms.withAnswers(12, 1);
        for (int f = 0; f < 11; f++) {
            x.rule(f, f % 2 * 3, f + 1);
            check.due("all before hang on " + (f + 1), x.about(f + 1, 8), f + 1);
        }
        check.due("the last by the first", x.rule(11, 3, 0), -3);
        check.due("starts at its field", x.ring(0), 11);
        for (int i = 1; i < 12; i++) {
            check.due("ring of twelve " + i, x.ring(i), i - 1);
        }
        check.due("ends", x.ring(12), -1);
        check.due("0 hangs on eleven", x.about(0, 7), 11);
        check.due("0 hangs on the last", x.hangs(0, 11), 1);
    }

    private static void about() {
        ThinkingForm x = new ThinkingForm();
        x.field(-5, 8, 0);
        x.field(1, 2, 1);
        x.part(1, 0, 0, 0);
        x.part(0, 3, 0, 0);
        x.rule(1, 0, 0);
        x.rule(1, 1, 1);
        x.rule(1, 3, 0);
        int[] asked = {-5, 8, 0, -9, -9, -9, -9, 0, 1};
        int[] made = {1, 2, 1, 0, 1, -9, 0, 1, 0};
        for (int what = 0; what <= 8; what++) {
            check.due("about(0, " + what + ")", x.about(0, what), asked[what]);
            check.due("about(1, " + what + ")", x.about(1, what), made[what]);
        }
        for (int wild : new int[] {LOW, -1, 9, 10, TOP}) {
            check.due("about what " + wild, x.about(0, wild), -2);
        }
        for (int wild : new int[] {LOW, -1, 2, TOP}) {
            check.due("about field " + wild, x.about(wild, 0), -1);
            check.due("UNKNOWN ahead of OUTSIDE", x.about(wild, 9), -1);
        }
    }

    private static void hangs() {
        ThinkingForm x = Forms.withAnswers(5, 1);
        x.rule(1, 0, 0);
        x.rule(2, 3, 1);
        int whether = x.part(10, 2, 0, 0);
        int deep = x.part(11, whether, whether, 4);
        x.rule(3, 0, deep);
        int[][] want = {{0, 0, 0, 0, 0}, {1, 0, 0, 0, 0}, {1, 1, 0, 0, 0}, {1, 1, 1, 0, 1}, {0, 0, 0, 0, 0}};
        for (int f = 0; f < 5; f++) {
            for (int g = 0; g < 5; g++) {
                check.due("hangs(" + f + ", " + g + ")", x.hangs(f, g), want[f][g]);
            }
        }
        x.rule(4, 1, 0);
        x.rule(4, 2, 0);
        check.due("not by need or right", x.hangs(4, 0), 0);
        x.rule(1, 0, -9);
        check.due("no more", x.hangs(3, 0), 0);
        check.due("still", x.hangs(3, 1), 1);
        for (int wild : new int[] {LOW, -1, 5, TOP}) {
            check.due("hangs of " + wild, x.hangs(wild, 0), -1);
            check.due("hangs on " + wild, x.hangs(0, wild), -1);
        }
    }
}
