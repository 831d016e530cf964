/** Promises 8 to 20: drafts, their answers and status, joining and seals. */
public final class DraftsTest {
    private static final int LOW = Integer.MIN_VALUE, TOP = Integer.MAX_VALUE;
    private static final int LOST = -2000000000;
    private static final int[] WILD_DRAFTS = {LOW, -1, 4, TOP};
    private static final Check check = new Check("DraftsTest");

    public static void main(String[] args) {
        answer();
        clear();
        keptAndCounts();
        madeAndItsSpan();
        status();
        done();
        numbers();
        ofTwelveAnswers();
        logic();
        choiceAndCounts();
        copy();
        join();
        joinIntoItsOwn();
        twelveAtOdds();
        seal();
        sealsFull();
        locks();
        openAndHolds();
        sealedLaterFields();
        check.end();
    }

    private static void answer() {
        ThinkingForm x = new ThinkingForm();
        x.field(-3, 3, 0);
        x.field(0, 9, 1);
        x.field(0, 9, 0);
        x.part(1, 0, 0, 0);
        check.due("none hangs on it", x.answer(0, 0, 1), 0);
        x.rule(1, 3, 0);
        x.rule(2, 0, 0);
        check.due("two hang on it", x.answer(0, 0, -3), 2);
        check.due("at the high end", x.answer(0, 0, 3), 2);
        check.due("below", x.answer(0, 0, -4), -2);
        check.due("above", x.answer(0, 0, 4), -2);
        check.due("as far below as LOST", x.answer(0, 0, LOST), -2);
        check.due("made", x.answer(0, 1, 1), -3);
        check.due("made ahead of OUTSIDE", x.answer(0, 1, 99), -3);
        for (int wild : WILD_DRAFTS) {
            check.due("draft " + wild, x.answer(wild, 0, 0), -1);
            check.due("UNKNOWN ahead of STATE", x.answer(wild, 1, 99), -1);
        }
        for (int wild : new int[] {LOW, -1, 3, TOP}) {
            check.due("field " + wild, x.answer(0, wild, 99), -1);
        }
        check.due("the last that was taken", x.kept(0, 0), 3);
        check.due("no other draft", x.kept(1, 0), LOST);
        check.due("in the last draft", x.answer(3, 0, 2), 2);
        check.due("in the last draft", x.kept(3, 0), 2);
    }

    private static void clear() {
        ThinkingForm x = new ThinkingForm();
        x.field(0, 9, 0);
        x.field(0, 9, 1);
        check.due("had none", x.clear(0, 0), 0);
        x.answer(0, 0, 0);
        x.answer(1, 0, 5);
        check.due("had one", x.clear(0, 0), 1);
        check.due("none any more", x.clear(0, 0), 0);
        check.due("none any more", x.kept(0, 0), LOST);
        check.due("others stay", x.kept(1, 0), 5);
        check.due("made", x.clear(0, 1), -3);
        for (int wild : WILD_DRAFTS) {
            check.due("draft " + wild, x.clear(wild, 1), -1);
        }
        check.due("field 2", x.clear(0, 2), -1);
        check.due("field -1", x.clear(0, -1), -1);
    }

    private static void keptAndCounts() {
        ThinkingForm x = new ThinkingForm();
        x.field(0, 1, 0);
        x.field(0, 9, 0);
        x.part(1, 0, 0, 0);
        x.rule(1, 0, 0);
        x.answer(0, 1, 7);
        check.due("kept, though hidden by MISSING", x.kept(0, 1), 7);
        check.due("does not count", x.counts(0, 1), LOST);
        x.answer(0, 0, 0);
        check.due("kept, though hidden by 0", x.kept(0, 1), 7);
        check.due("does not count", x.counts(0, 1), LOST);
        check.due("0 is an answer", x.counts(0, 0), 0);
        x.answer(0, 0, 1);
        check.due("counts again", x.counts(0, 1), 7);
        for (int wild : WILD_DRAFTS) {
            check.due("kept in " + wild, x.kept(wild, 0), LOST);
            check.due("counts in " + wild, x.counts(wild, 0), LOST);
        }
        for (int wild : new int[] {LOW, -1, 2, TOP}) {
            check.due("kept of " + wild, x.kept(0, wild), LOST);
            check.due("counts of " + wild, x.counts(0, wild), LOST);
        }
    }

    private static void madeAndItsSpan() {
        ThinkingForm x = new ThinkingForm();
        x.field(0, 9, 0);
        x.field(2, 5, 1);
        x.field(0, 1, 0);
        x.part(1, 0, 0, 0);
        x.part(1, 1, 0, 0);
        x.part(1, 2, 0, 0);
        check.due("without MAKE", x.kept(0, 1), LOST);
        check.due("without MAKE", x.counts(0, 1), LOST);
        x.rule(1, 3, 0);
        check.due("MAKE is MISSING", x.kept(0, 1), LOST);
        int[] answers = {1, 2, 5, 6};
        int[] counted = {LOST, 2, 5, LOST};
        int[] statuses = {1, 3, 3, 1};
        for (int i = 0; i < 4; i++) {
            x.answer(0, 0, answers[i]);
            check.due("the VALUE of MAKE, in the SPAN or not", x.kept(0, 1), answers[i]);
            check.due("counts in its SPAN alone", x.counts(0, 1), counted[i]);
            check.due("status by its SPAN", x.status(0, 1), statuses[i]);
            check.due("MISSING out of its SPAN", x.value(0, 1), counted[i]);
        }
        x.answer(0, 0, 3);
        x.rule(1, 0, 2);
        check.due("hidden", x.status(0, 1), 0);
        check.due("hidden, kept", x.kept(0, 1), 3);
        check.due("hidden, does not count", x.counts(0, 1), LOST);
        x.answer(0, 2, 1);
        check.due("shown, counts", x.counts(0, 1), 3);
    }

    private static void status() {
        ThinkingForm x = new ThinkingForm();
        x.field(0, 9, 0);
        x.field(-1, 1, 0);
        x.part(1, 1, 0, 0);
        check.due("shown", x.status(0, 0), 1);
        x.rule(0, 1, 0);
        check.due("need is MISSING", x.status(0, 0), 1);
        x.answer(0, 1, 0);
        check.due("need is 0", x.status(0, 0), 1);
        x.answer(0, 1, -1);
        check.due("need is not 0", x.status(0, 0), 2);
        x.answer(0, 0, 4);
        check.due("needed and there", x.status(0, 0), 3);
        x.rule(0, 2, 0);
        check.due("right is not 0", x.status(0, 0), 3);
        x.answer(0, 1, 0);
        check.due("right is 0", x.status(0, 0), 4);
        x.clear(0, 1);
        check.due("right is MISSING", x.status(0, 0), 3);
        x.rule(0, 0, 0);
        check.due("show is MISSING", x.status(0, 0), 0);
        x.answer(0, 1, 0);
        check.due("show is 0", x.status(0, 0), 0);
        x.answer(0, 1, -1);
        check.due("show is not 0", x.status(0, 0), 3);
        x.clear(0, 0);
        check.due("shown and needed", x.status(0, 0), 2);
        check.due("in another draft", x.status(1, 0), 0);
        for (int wild : WILD_DRAFTS) {
            check.due("draft " + wild, x.status(wild, 0), -1);
        }
        for (int wild : new int[] {LOW, -1, 2, TOP}) {
            check.due("field " + wild, x.status(0, wild), -1);
        }
    }

    private static void done() {
        ThinkingForm x = new ThinkingForm();
        x.field(0, 9, 0);
        x.field(0, 9, 0);
        x.part(0, 1, 0, 0);
        x.part(1, 1, 0, 0);
        check.due("none is needed", x.done(0), 1);
        x.rule(1, 1, 0);
        check.due("one is needed", x.done(0), 0);
        x.answer(0, 1, 0);
        check.due("it is there", x.done(0), 1);
        x.rule(1, 2, 1);
        check.due("it is wrong", x.done(0), 0);
        x.answer(0, 1, 3);
        check.due("it is right", x.done(0), 1);
        check.due("another draft", x.done(3), 0);
        int zero = x.part(0, 0, 0, 0);
        x.rule(1, 0, zero);
        check.due("hidden, so not needed", x.done(3), 1);
        x.rule(0, 1, 0);
        check.due("the first is needed", x.done(3), 0);
        for (int wild : WILD_DRAFTS) {
            check.due("draft " + wild, x.done(wild), -1);
        }
    }

    private static void numbers() {
        ThinkingForm x = new ThinkingForm();
        x.part(0, 1000000, 0, 0);
        x.part(0, -1000000, 0, 0);
        x.part(0, 1, 0, 0);
        x.part(0, 999999, 0, 0);
        check.due("sum cut", x.value(0, x.part(2, 0, 2, 0)), 1000000);
        check.due("sum not cut", x.value(0, x.part(2, 3, 2, 0)), 1000000);
        check.due("sum", x.value(0, x.part(2, 1, 3, 0)), -1);
        check.due("difference cut", x.value(0, x.part(3, 1, 2, 0)), -1000000);
        check.due("difference", x.value(0, x.part(3, 2, 3, 0)), -999998);
        check.due("product cut", x.value(0, x.part(4, 0, 0, 0)), 1000000);
        check.due("product cut below", x.value(0, x.part(4, 0, 1, 0)), -1000000);
        check.due("product", x.value(0, x.part(4, 2, 1, 0)), -1000000);
        check.due("alike", x.value(0, x.part(5, 2, 2, 0)), 1);
        check.due("not alike", x.value(0, x.part(5, 2, 3, 0)), 0);
        check.due("below", x.value(0, x.part(6, 1, 0, 0)), 1);
        check.due("above", x.value(0, x.part(6, 0, 1, 0)), 0);
        check.due("as high is not below", x.value(0, x.part(6, 0, 0, 0)), 0);
        for (int wild : WILD_DRAFTS) {
            check.due("draft " + wild, x.value(wild, 0), LOST);
        }
        for (int wild : new int[] {LOW, -9, -1, 17, 50, TOP}) {
            check.due("part " + wild, x.value(0, wild), LOST);
        }
    }

    /** A chain of made fields against their numbers' order, and a part of all answers that there can be. */
    private static void ofTwelveAnswers() {
        ThinkingForm x = new ThinkingForm();
        int sum = x.part(0, 0, 0, 0);
        for (int f = 0; f < 12; f++) {
            x.field(0, 9, f == 11 ? 0 : 1);
            sum = x.part(2, sum, x.part(1, f, 0, 0), 0);
        }
        for (int f = 0; f < 11; f++) {
            check.due("made of the next", x.rule(f, 3, 2 * f + 3), 1);
        }
        check.due("MISSING at first", x.value(0, sum), LOST);
        check.due("eleven hang on it", x.answer(0, 11, 3), 11);
        check.due("of all twelve", x.value(0, sum), 36);
        check.due("through all of them", x.counts(0, 0), 3);
        x.rule(6, 0, x.part(0, 0, 0, 0));
        check.due("one in the middle is hidden", x.counts(0, 0), LOST);
        check.due("it is kept", x.kept(0, 6), 3);
        check.due("what is made of it is MISSING", x.kept(0, 5), LOST);
        check.due("MISSING by one", x.value(0, sum), LOST);
    }

    /** All pairs of MISSING, 0 and two other numbers, by each kind of part. */
    private static void logic() {
        ThinkingForm x = new ThinkingForm();
        x.field(0, 1, 0);
        x.part(1, 0, 0, 0);
        x.part(0, 0, 0, 0);
        x.part(0, -4, 0, 0);
        x.part(0, 7, 0, 0);
        int[][] both = {{LOST, 0, LOST, LOST}, {0, 0, 0, 0}, {LOST, 0, 1, 1}, {LOST, 0, 1, 1}};
        int[][] either = {{LOST, LOST, 1, 1}, {LOST, 0, 1, 1}, {1, 1, 1, 1}, {1, 1, 1, 1}};
        for (int a = 0; a < 4; a++) {
            for (int b = 0; b < 4; b++) {
                check.due("both " + a + " " + b, x.value(0, x.part(7, a, b, 0)), both[a][b]);
                check.due("either " + a + " " + b, x.value(0, x.part(8, a, b, 0)), either[a][b]);
            }
        }
        int[] not = {LOST, 1, 0, 0};
        for (int a = 0; a < 4; a++) {
            check.due("not " + a, x.value(0, x.part(9, a, 0, 0)), not[a]);
        }
        ThinkingForm y = new ThinkingForm();
        y.field(0, 1, 0);
        y.part(1, 0, 0, 0);
        y.part(0, 0, 0, 0);
        for (int kind = 2; kind <= 6; kind++) {
            check.due("MISSING a of " + kind, y.value(0, y.part(kind, 0, 1, 0)), LOST);
            check.due("MISSING b of " + kind, y.value(0, y.part(kind, 1, 0, 0)), LOST);
            check.due("MISSING both of " + kind, y.value(0, y.part(kind, 0, 0, 0)), LOST);
        }
    }

    private static void choiceAndCounts() {
        ThinkingForm x = new ThinkingForm();
        x.field(0, 1, 0);
        x.field(0, 1, 0);
        x.part(1, 0, 0, 0);
        x.part(0, 0, 0, 0);
        x.part(0, -4, 0, 0);
        check.due("a is MISSING", x.value(0, x.part(11, 0, 1, 2)), LOST);
        check.due("a is 0, b MISSING", x.value(0, x.part(11, 1, 0, 2)), -4);
        check.due("a is 0, c MISSING", x.value(0, x.part(11, 1, 2, 0)), LOST);
        check.due("a is not 0, c MISSING", x.value(0, x.part(11, 2, 1, 0)), 0);
        check.due("a is not 0, b MISSING", x.value(0, x.part(11, 2, 0, 1)), LOST);
        int whether = x.part(10, 0, 0, 0);
        check.due("does not count", x.value(0, whether), 0);
        x.answer(0, 0, 0);
        check.due("counts", x.value(0, whether), 1);
        x.rule(0, 0, 1);
        check.due("hidden, does not count", x.value(0, whether), 0);
        check.due("hidden is MISSING", x.value(0, 0), LOST);
    }

    private static void copy() {
        ThinkingForm x = new ThinkingForm();
        for (int f = 0; f < 4; f++) {
            x.field(0, 9, f == 3 ? 1 : 0);
        }
        x.answer(0, 0, 1);
        x.answer(0, 1, 2);
        x.answer(1, 1, 2);
        x.answer(1, 2, 3);
        check.due("one more, one less, one alike", x.copy(0, 1), 2);
        int[] want = {1, 2, LOST, LOST};
        for (int f = 0; f < 4; f++) {
            check.due("copy of " + f, x.kept(1, f), want[f]);
            check.due("what was copied of " + f, x.kept(0, f), want[f]);
        }
        check.due("all alike", x.copy(0, 1), 0);
        check.due("of itself", x.copy(0, 0), 0);
        x.answer(1, 0, 5);
        check.due("not one with it", x.kept(0, 0), 1);
        check.due("another number", x.copy(0, 1), 1);
        for (int wild : WILD_DRAFTS) {
            check.due("from " + wild, x.copy(wild, 0), -1);
            check.due("into " + wild, x.copy(0, wild), -1);
        }
        x.seal(0, 1);
        check.due("into a locked one", x.copy(1, 0), -3);
        check.due("into a locked one, of itself", x.copy(0, 0), -3);
        check.due("UNKNOWN ahead of STATE", x.copy(4, 0), -1);
        check.due("from a locked one", x.copy(0, 2), 2);
    }

    /** Every row of none, 1 and 2 for what was and what two made of it. */
    private static void join() {
        int[] given = {LOST, 1, 2};
        for (int was = 0; was < 3; was++) {
            for (int one = 0; one < 3; one++) {
                for (int other = 0; other < 3; other++) {
                    ThinkingForm x = new ThinkingForm();
                    x.field(0, 9, 0);
                    put(x, 0, given[was]);
                    put(x, 1, given[one]);
                    put(x, 2, given[other]);
                    x.answer(3, 0, 9);
                    boolean odd = one != other && one != was && other != was;
                    int want = one != other && one == was ? given[other] : given[one];
                    String row = was + " " + one + " " + other;
                    check.due("at odds " + row, x.join(0, 1, 2, 3), odd ? 1 : 0);
                    check.due("joined " + row, x.kept(3, 0), want);
                    check.due("told " + row, x.told(5), odd ? 1 : 0);
                    check.due("odds " + row, x.odds(0), odd ? 0 : -1);
                }
            }
        }
    }

    private static void put(ThinkingForm x, int d, int v) {
        if (v != LOST) {
            x.answer(d, 0, v);
        }
    }

    private static void joinIntoItsOwn() {
        for (int into = 0; into < 4; into++) {
            ThinkingForm x = new ThinkingForm();
            for (int f = 0; f < 5; f++) {
                x.field(0, 9, f == 1 ? 1 : 0);
                x.answer(0, f, 1);
                x.answer(1, f, f == 3 ? 1 : 2);
                x.answer(2, f, f == 2 ? 1 : 3);
            }
            check.due("two at odds into " + into, x.join(0, 1, 2, into), 2);
            int[] want = {2, LOST, 2, 3, 2};
            for (int f = 0; f < 5; f++) {
                check.due("joined into " + into + " of " + f, x.kept(into, f), want[f]);
            }
            check.due("first at odds", x.odds(0), 0);
            check.due("second at odds", x.odds(1), 4);
            for (int wild : new int[] {LOW, -1, 2, 12, TOP}) {
                check.due("odds " + wild, x.odds(wild), -1);
            }
            for (int wild : WILD_DRAFTS) {
                check.due("a is " + wild, x.join(wild, 1, 2, 3), -1);
                check.due("b is " + wild, x.join(0, wild, 2, 3), -1);
                check.due("c is " + wild, x.join(0, 1, wild, 3), -1);
                check.due("d is " + wild, x.join(0, 1, 2, wild), -1);
            }
            x.seal(3, 2);
            check.due("a made one locks nothing", x.join(3, 3, 3, 3), 0);
            check.due("the latest has none at odds", x.odds(0), -1);
            x.seal(3, 1);
            check.due("locked", x.join(0, 0, 0, 3), -3);
            check.due("UNKNOWN ahead of STATE", x.join(4, 0, 0, 3), -1);
        }
    }

    private static void twelveAtOdds() {
        ThinkingForm x = new ThinkingForm();
        for (int f = 0; f < 12; f++) {
            x.field(0, 9, 0);
            x.answer(1, f, 1);
            x.answer(2, f, 2);
        }
        check.due("all at odds", x.join(0, 1, 2, 3), 12);
        for (int f = 0; f < 12; f++) {
            check.due("at odds by number", x.odds(f), f);
            check.due("that of b", x.kept(3, f), 1);
        }
        check.due("no thirteenth", x.odds(12), -1);
        check.due("all of them", x.told(13), 12);
        check.due("all become other", x.copy(2, 3), 12);
    }

    private static void seal() {
        ThinkingForm x = new ThinkingForm();
        check.due("no field to seal", x.seal(0, 1), -2);
        x.field(0, 9, 0);
        x.field(0, 9, 0);
        x.field(0, 9, 1);
        x.part(1, 0, 0, 0);
        x.rule(2, 3, 0);
        x.answer(1, 0, 6);
        for (int wild : WILD_DRAFTS) {
            check.due("draft " + wild, x.seal(wild, 0), -1);
        }
        for (int wild : new int[] {LOW, -1, 0, 8, 9, TOP}) {
            check.due("fields " + wild, x.seal(0, wild), -2);
        }
        check.due("none was made", x.told(3), 0);
        check.due("all fields", x.seal(1, 7), 0);
        check.due("one field", x.seal(2, 2), 1);
        int[] all = {1, 7, 0, 1};
        int[] one = {2, 2, 0, 1};
        for (int what = 0; what < 4; what++) {
            check.due("sealed(0, " + what + ")", x.sealed(0, what), all[what]);
            check.due("sealed(1, " + what + ")", x.sealed(1, what), one[what]);
        }
        int[] allAnswers = {6, LOST, LOST};
        int[] allStatuses = {3, 1, 3};
        int[] oneStatuses = {-9, 1, -9};
        for (int f = 0; f < 3; f++) {
            check.due("answer it keeps of " + f, x.sealed(0, 10 + f), allAnswers[f]);
            check.due("status it keeps of " + f, x.sealed(0, 30 + f), allStatuses[f]);
            check.due("answer the other keeps of " + f, x.sealed(1, 10 + f), LOST);
            check.due("status the other keeps of " + f, x.sealed(1, 30 + f), oneStatuses[f]);
        }
        for (int wild : new int[] {LOW, LOW + 9, LOW + 10, LOW + 30, -1, 4, 9, 13, 21, 22, 29, 33, 41, 42, TOP}) {
            check.due("sealed what " + wild, x.sealed(0, wild), -2);
        }
        for (int wild : new int[] {LOW, -1, 2, 6, TOP}) {
            check.due("sealed of " + wild, x.sealed(wild, 0), -1);
            check.due("UNKNOWN ahead of OUTSIDE", x.sealed(wild, 4), -1);
            check.due("open of " + wild, x.open(wild), -1);
        }
    }

    private static void sealsFull() {
        ThinkingForm x = new ThinkingForm();
        for (int f = 0; f < 12; f++) {
            x.field(0, 9, 0);
        }
        check.due("a bit for each field", x.seal(0, 4095), 0);
        check.due("a bit more", x.seal(0, 4096), -2);
        for (int s = 1; s < 6; s++) {
            check.due("seal " + s, x.seal(s % 4, 1 << s), s);
        }
        check.due("a seventh", x.seal(0, 1), -4);
        check.due("UNKNOWN ahead of FULL", x.seal(4, 1), -1);
        check.due("OUTSIDE ahead of FULL", x.seal(0, 0), -2);
        check.due("broken ones are counted", x.open(5), 1);
        check.due("a seventh", x.seal(0, 1), -4);
        check.due("six", x.told(3), 6);
        check.due("five hold", x.told(4), 5);
        check.due("answer it keeps of the last", x.sealed(0, 21), LOST);
        check.due("status it keeps of the last", x.sealed(0, 41), 1);
    }

    private static void locks() {
        ThinkingForm x = new ThinkingForm();
        for (int f = 0; f < 3; f++) {
            x.field(0, 9, 0);
            x.answer(0, f, f);
        }
        x.clear(0, 1);
        x.seal(0, 3);
        x.seal(0, 1);
        check.due("locked", x.answer(0, 0, 5), -3);
        check.due("locked, the same answer too", x.answer(0, 0, 0), -3);
        check.due("locked without an answer", x.answer(0, 1, 5), -3);
        check.due("OUTSIDE ahead of locked", x.answer(0, 0, 10), -2);
        check.due("clear", x.clear(0, 0), -3);
        check.due("clear without an answer", x.clear(0, 1), -3);
        check.due("not in the seal", x.answer(0, 2, 5), 0);
        check.due("not in the seal", x.clear(0, 2), 1);
        check.due("not in its draft", x.answer(1, 0, 5), 0);
        check.due("the answer stays", x.kept(0, 0), 0);
        x.open(0);
        check.due("locked by the other", x.answer(0, 0, 5), -3);
        check.due("free", x.answer(0, 1, 5), 0);
        check.due("copy is locked", x.copy(1, 0), -3);
        x.open(1);
        check.due("all free", x.copy(1, 0), 2);
    }

    private static void openAndHolds() {
        ThinkingForm x = new ThinkingForm();
        x.field(0, 9, 0);
        x.field(0, 9, 0);
        x.part(1, 1, 0, 0);
        x.rule(0, 0, 0);
        x.answer(0, 0, 4);
        x.answer(0, 1, 1);
        check.due("a seal", x.seal(0, 1), 0);
        check.due("holds", x.sealed(0, 3), 1);
        x.answer(0, 1, 2);
        check.due("holds by the status alone", x.sealed(0, 3), 1);
        x.answer(0, 1, 0);
        check.due("another status", x.sealed(0, 3), 0);
        check.due("none holds", x.told(4), 0);
        check.due("not broken by that", x.sealed(0, 2), 0);
        check.due("the status it keeps", x.sealed(0, 30), 3);
        check.due("locked still", x.answer(0, 0, 1), -3);
        x.answer(0, 1, 1);
        check.due("holds again", x.sealed(0, 3), 1);
        check.due("one holds", x.told(4), 1);
        check.due("opened", x.open(0), 1);
        check.due("opened before", x.open(0), 0);
        check.due("broken", x.sealed(0, 2), 1);
        check.due("a broken one does not hold", x.sealed(0, 3), 0);
        check.due("none holds", x.told(4), 0);
        x.answer(0, 0, 7);
        check.due("it keeps what was", x.sealed(0, 10), 4);
        check.due("it keeps its fields", x.sealed(0, 1), 1);
        x.rule(0, 0, -9);
        check.due("one of all", x.seal(0, 3), 1);
        x.rule(1, 2, x.part(0, 0, 0, 0));
        check.due("rules can change a status too", x.sealed(1, 3), 0);
    }

    private static void sealedLaterFields() {
        ThinkingForm x = new ThinkingForm();
        x.field(0, 9, 0);
        x.seal(0, 1);
        check.due("no such field", x.sealed(0, 11), -2);
        check.due("no such field", x.sealed(0, 31), -2);
        x.field(0, 9, 0);
        x.answer(0, 1, 3);
        check.due("one that it has not", x.sealed(0, 11), LOST);
        check.due("one that it has not", x.sealed(0, 31), -9);
        check.due("holds", x.sealed(0, 3), 1);
    }
}
