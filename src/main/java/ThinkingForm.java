import java.util.Arrays;

/** A form whose fields are shown, needed, right or worked out by rules over other answers. */
public final class ThinkingForm {
    /** LOST stands for MISSING inside as well: no value and no end of a span comes near it. */
    public static final int UNKNOWN = -1, OUTSIDE = -2, STATE = -3, FULL = -4, SPENT = -6, NONE = -9, LOST = -2000000000;

    private static final int MOST_FIELDS = 12, MOST_PARTS = 50, MOST_SEALS = 6, MOST_ROWS = 20000, DRAFTS = 4;
    private static final int FARTHEST_END = 1000, FARTHEST_VALUE = 1000000;

    private static final int ASKED = 0, MADE = 1;

    private static final int NUMBER = 0, ANSWER = 1, SUM = 2, DIFFERENCE = 3, PRODUCT = 4, ALIKE = 5, BELOW = 6,
            BOTH = 7, EITHER = 8, NOT = 9, COUNTED = 10, CHOICE = 11;

    private static final int SHOW = 0, NEED = 1, RIGHT = 2, MAKE = 3, RULES = 4;

    private static final int HIDDEN = 0, UNANSWERED = 1, NEEDED = 2, ANSWERED = 3, WRONG = 4;

    private static final int FIRST_RULE = 3, FIRST_KEPT_ANSWER = 10, FIRST_KEPT_STATUS = 30, FIRST_DRAFT = 10;

    private final Net net;
    private final Ring ring;
    private final int[][] drafts;
    private final Sight sight;
    private final Joining joining;
    private final Seals seals;
    private final Trial trial;
    private final Telling telling;

    public ThinkingForm() {
        net = new Net();
        ring = new Ring();
        drafts = new int[DRAFTS][MOST_FIELDS];
        for (int d = 0; d < DRAFTS; d++) {
            Arrays.fill(drafts[d], LOST);
        }
        sight = new Sight();
        joining = new Joining();
        seals = new Seals();
        trial = new Trial();
        telling = new Telling();
    }

    // ---- 1 fields, rules

    public int field(int low, int high, int kind) {
        if (low < -FARTHEST_END || high > FARTHEST_END || low > high) {
            return OUTSIDE;
        }
        if (kind != ASKED && kind != MADE) {
            return OUTSIDE;
        }
        int f = net.fields.add(low, high, kind == MADE);
        net.arrange();
        return f;
    }

    public int part(int kind, int a, int b, int c) {
        if (!knowsOperands(kind, a, b, c)) {
            return UNKNOWN;
        }
        if (kind < NUMBER || kind > CHOICE) {
            return OUTSIDE;
        }
        if (kind == NUMBER && (a < -FARTHEST_VALUE || a > FARTHEST_VALUE)) {
            return OUTSIDE;
        }
        int p = net.parts.add(kind, a, b, c);
        net.arrange();
        return p;
    }

    public int rule(int f, int which, int part) {
        if (!net.fields.has(f) || part != NONE && !net.parts.has(part)) {
            return UNKNOWN;
        }
        if (which < SHOW || which > MAKE || which == MAKE && !net.fields.made[f]) {
            return OUTSIDE;
        }
        int direct = net.directWith(f, which, part);
        if (hasBit(net.fields.spread(direct), f)) {
            ring.follow(net.fields, f, direct);
            return STATE;
        }
        net.setRule(f, which, part);
        return 1;
    }

    public int ring(int i) {
        return i >= 0 && i < ring.count ? ring.members[i] : UNKNOWN;
    }

    public int about(int f, int what) {
        if (!net.fields.has(f)) {
            return UNKNOWN;
        }
        switch (what) {
            case 0:
                return net.fields.low[f];
            case 1:
                return net.fields.high[f];
            case 2:
                return net.fields.made[f] ? MADE : ASKED;
            case 3:
            case 4:
            case 5:
            case 6:
                return net.fields.rules[f][what - FIRST_RULE];
            case 7:
                return Integer.bitCount(net.fields.hangs[f]);
            case 8:
                return net.fields.hangersOn(f);
            default:
                return OUTSIDE;
        }
    }

    public int hangs(int f, int g) {
        if (!net.fields.has(f) || !net.fields.has(g)) {
            return UNKNOWN;
        }
        return truth(hasBit(net.fields.hangs[f], g));
    }

    // ---- 2 drafts

    public int answer(int d, int f, int v) {
        if (!hasPlace(d, f)) {
            return UNKNOWN;
        }
        if (net.fields.made[f]) {
            return STATE;
        }
        if (!net.fields.inSpan(f, v)) {
            return OUTSIDE;
        }
        if (hasBit(lockedBits(d), f)) {
            return STATE;
        }
        drafts[d][f] = v;
        return net.fields.hangersOn(f);
    }

    public int clear(int d, int f) {
        if (!hasPlace(d, f)) {
            return UNKNOWN;
        }
        if (net.fields.made[f] || hasBit(lockedBits(d), f)) {
            return STATE;
        }
        int had = truth(drafts[d][f] != LOST);
        drafts[d][f] = LOST;
        return had;
    }

    public int kept(int d, int f) {
        if (!hasPlace(d, f)) {
            return LOST;
        }
        if (!net.fields.made[f]) {
            return drafts[d][f];
        }
        sight.look(net, drafts[d]);
        return sight.valueOf(net.fields.rules[f][MAKE]);
    }

    public int counts(int d, int f) {
        if (!hasPlace(d, f)) {
            return LOST;
        }
        sight.look(net, drafts[d]);
        return sight.counted[f];
    }

    public int status(int d, int f) {
        if (!hasPlace(d, f)) {
            return UNKNOWN;
        }
        sight.look(net, drafts[d]);
        return sight.statusOf(net.fields, f);
    }

    public int done(int d) {
        if (!hasDraft(d)) {
            return UNKNOWN;
        }
        sight.look(net, drafts[d]);
        for (int f = 0; f < net.fields.count; f++) {
            int state = sight.statusOf(net.fields, f);
            if (state == NEEDED || state == WRONG) {
                return 0;
            }
        }
        return 1;
    }

    public int value(int d, int part) {
        if (!hasDraft(d) || !net.parts.has(part)) {
            return LOST;
        }
        sight.look(net, drafts[d]);
        return sight.values[part];
    }

    public int copy(int a, int d) {
        if (!hasDraft(a) || !hasDraft(d)) {
            return UNKNOWN;
        }
        if (lockedBits(d) != 0) {
            return STATE;
        }
        int others = 0;
        for (int f = 0; f < net.fields.count; f++) {
            if (drafts[d][f] != drafts[a][f]) {
                drafts[d][f] = drafts[a][f];
                others++;
            }
        }
        return others;
    }

    public int join(int a, int b, int c, int d) {
        if (!hasDraft(a) || !hasDraft(b) || !hasDraft(c) || !hasDraft(d)) {
            return UNKNOWN;
        }
        if (lockedBits(d) != 0) {
            return STATE;
        }
        joining.begin();
        for (int f = 0; f < net.fields.count; f++) {
            drafts[d][f] = joining.joinOne(f, drafts[a][f], drafts[b][f], drafts[c][f]);
        }
        return joining.count;
    }

    public int odds(int i) {
        return i >= 0 && i < joining.count ? joining.atOdds[i] : UNKNOWN;
    }

    public int seal(int d, int fields) {
        if (!hasDraft(d)) {
            return UNKNOWN;
        }
        if (fields < 1 || fields >= 1 << net.fields.count) {
            return OUTSIDE;
        }
        sight.look(net, drafts[d]);
        return seals.add(d, fields, drafts[d], net.fields, sight);
    }

    public int open(int s) {
        if (!seals.has(s)) {
            return UNKNOWN;
        }
        int opened = truth(!seals.broken[s]);
        seals.broken[s] = true;
        return opened;
    }

    public int sealed(int s, int what) {
        if (!seals.has(s)) {
            return UNKNOWN;
        }
        if (what >= FIRST_KEPT_STATUS && net.fields.has(what - FIRST_KEPT_STATUS)) {
            return seals.statuses[s][what - FIRST_KEPT_STATUS];
        }
        if (what >= FIRST_KEPT_ANSWER && net.fields.has(what - FIRST_KEPT_ANSWER)) {
            return seals.answers[s][what - FIRST_KEPT_ANSWER];
        }
        switch (what) {
            case 0:
                return seals.draft[s];
            case 1:
                return seals.fields[s];
            case 2:
                return truth(seals.broken[s]);
            case 3:
                return truth(isHolding(s));
            default:
                return OUTSIDE;
        }
    }

    // ---- 3 trials

    public int reach(int f) {
        return net.fields.has(f) ? trial.run(net, f) : UNKNOWN;
    }

    public int found(int f) {
        return net.fields.has(f) ? trial.row[f] : LOST;
    }

    public int tried() {
        return trial.rowsTried;
    }

    public int told(int what) {
        switch (what) {
            case 0:
                return net.fields.count;
            case 1:
                return net.parts.count;
            case 2:
                return Integer.bitCount(net.fields.askedBits());
            case 3:
                return seals.count;
            case 4:
                return countHolding();
            case 5:
                return joining.count;
            default:
                return what >= FIRST_DRAFT && hasDraft(what - FIRST_DRAFT) ? countAnswers(what - FIRST_DRAFT) : OUTSIDE;
        }
    }

    public int tell(int f) {
        return net.fields.has(f) ? telling.tellOne(net.fields, f) : UNKNOWN;
    }

    public int address(int f) {
        return net.fields.has(f) ? telling.addressOne(net.fields, f) : UNKNOWN;
    }

    public int trace() {
        return telling.trail;
    }

    // ---- what several calls share

    /** Whether what a part of this kind is of is there; a kind that there is not is of nothing. */
    private boolean knowsOperands(int kind, int a, int b, int c) {
        switch (kind) {
            case ANSWER:
            case COUNTED:
                return net.fields.has(a);
            case SUM:
            case DIFFERENCE:
            case PRODUCT:
            case ALIKE:
            case BELOW:
            case BOTH:
            case EITHER:
                return net.parts.has(a) && net.parts.has(b);
            case NOT:
                return net.parts.has(a);
            case CHOICE:
                return net.parts.has(a) && net.parts.has(b) && net.parts.has(c);
            default:
                return true;
        }
    }

    private boolean hasDraft(int d) {
        return d >= 0 && d < DRAFTS;
    }

    private boolean hasPlace(int d, int f) {
        return hasDraft(d) && net.fields.has(f);
    }

    private int lockedBits(int d) {
        return seals.unbrokenBits(d) & net.fields.askedBits();
    }

    private boolean isHolding(int s) {
        if (seals.broken[s]) {
            return false;
        }
        sight.look(net, drafts[seals.draft[s]]);
        return seals.agrees(s, net.fields, sight);
    }

    private int countHolding() {
        int holding = 0;
        for (int s = 0; s < seals.count; s++) {
            holding += truth(isHolding(s));
        }
        return holding;
    }

    private int countAnswers(int d) {
        int answers = 0;
        for (int f = 0; f < net.fields.count; f++) {
            answers += truth(drafts[d][f] != LOST);
        }
        return answers;
    }

    private static boolean hasBit(int bits, int i) {
        return (bits >> i & 1) != 0;
    }

    private static int truth(boolean is) {
        return is ? 1 : 0;
    }

    /** Whether a value is there and not 0. */
    private static boolean isYes(int v) {
        return v != LOST && v != 0;
    }

    /** The fields, their rules, and which hang on which. */
    private static final class Fields {
        final int[] low = new int[MOST_FIELDS];
        final int[] high = new int[MOST_FIELDS];
        final boolean[] made = new boolean[MOST_FIELDS];
        final int[][] rules = new int[MOST_FIELDS][RULES];
        /** Bits of the fields whose answers SHOW and MAKE are of. */
        final int[] direct = new int[MOST_FIELDS];
        /** Bits of the fields on which one hangs. */
        final int[] hangs = new int[MOST_FIELDS];
        int count;

        boolean has(int f) {
            return f >= 0 && f < count;
        }

        int add(int lowest, int highest, boolean isMade) {
            if (count >= MOST_FIELDS) {
                return FULL;
            }
            low[count] = lowest;
            high[count] = highest;
            made[count] = isMade;
            Arrays.fill(rules[count], NONE);
            count++;
            return count - 1;
        }

        boolean inSpan(int f, int v) {
            return v >= low[f] && v <= high[f];
        }

        int askedBits() {
            int bits = 0;
            for (int f = 0; f < count; f++) {
                if (!made[f]) {
                    bits |= 1 << f;
                }
            }
            return bits;
        }

        int hangersOn(int f) {
            int hangers = 0;
            for (int g = 0; g < count; g++) {
                hangers += truth(hasBit(hangs[g], f));
            }
            return hangers;
        }

        /** These fields and all on which they hang. */
        int spread(int bits) {
            int all = bits;
            for (int f = 0; f < count; f++) {
                if (hasBit(bits, f)) {
                    all |= hangs[f];
                }
            }
            return all;
        }

        void spreadHangs() {
            for (int f = 0; f < count; f++) {
                hangs[f] = direct[f];
            }
            // By way of one field after the other, so that chains of any length close in one pass.
            for (int way = 0; way < count; way++) {
                for (int f = 0; f < count; f++) {
                    if (hasBit(hangs[f], way)) {
                        hangs[f] |= hangs[way];
                    }
                }
            }
        }

        int leastHanging(int among, int on) {
            for (int f = 0; f < count; f++) {
                if (hasBit(among, f) && hasBit(hangs[f], on)) {
                    return f;
                }
            }
            return NONE;
        }
    }

    /** The parts that rules are made of. */
    private static final class Parts {
        final int[] kind = new int[MOST_PARTS];
        final int[] a = new int[MOST_PARTS];
        final int[] b = new int[MOST_PARTS];
        final int[] c = new int[MOST_PARTS];
        /** Bits of the fields whose answers a part is of, itself or by the parts that it is of. */
        final int[] answersOf = new int[MOST_PARTS];
        int count;

        boolean has(int p) {
            return p >= 0 && p < count;
        }

        int add(int newKind, int newA, int newB, int newC) {
            if (count >= MOST_PARTS) {
                return FULL;
            }
            kind[count] = newKind;
            a[count] = newA;
            b[count] = newB;
            c[count] = newC;
            answersOf[count] = gatherAnswers(count);
            count++;
            return count - 1;
        }

        int answersOfRule(int p) {
            return p == NONE ? 0 : answersOf[p];
        }

        private int gatherAnswers(int p) {
            switch (kind[p]) {
                case NUMBER:
                    return 0;
                case ANSWER:
                case COUNTED:
                    return 1 << a[p];
                case NOT:
                    return answersOf[a[p]];
                case CHOICE:
                    return answersOf[a[p]] | answersOf[b[p]] | answersOf[c[p]];
                default:
                    return answersOf[a[p]] | answersOf[b[p]];
            }
        }
    }

    /** Fields and parts together, and the order of steps in which all of them can be worked out. */
    private static final class Net {
        final Fields fields = new Fields();
        final Parts parts = new Parts();
        /** A part's number, or MOST_PARTS and a field's number. */
        final int[] steps = new int[MOST_PARTS + MOST_FIELDS];
        /** Bits of the fields whose answers can change what a step works out. */
        final int[] movers = new int[MOST_PARTS + MOST_FIELDS];
        /** Bits of the fields that a part is of, and of those on which they hang. */
        private final int[] rests = new int[MOST_PARTS];
        int stepCount;

        /** Bits of the fields whose answers SHOW and MAKE of a field would be of, if it had this rule. */
        int directWith(int f, int which, int part) {
            int show = which == SHOW ? part : fields.rules[f][SHOW];
            int make = which == MAKE ? part : fields.rules[f][MAKE];
            return parts.answersOfRule(show) | parts.answersOfRule(make);
        }

        void setRule(int f, int which, int part) {
            fields.direct[f] = directWith(f, which, part);
            fields.rules[f][which] = part;
            fields.spreadHangs();
            arrange();
        }

        /**
         * A part rests on more fields than any field that it is of hangs on, and a field hangs on all that
         * its parts rest on. So what rests on fewer fields comes first; of as many, parts by number, then fields.
         */
        void arrange() {
            for (int p = 0; p < parts.count; p++) {
                rests[p] = fields.spread(parts.answersOf[p]);
            }
            stepCount = 0;
            for (int many = 0; many <= MOST_FIELDS; many++) {
                for (int p = 0; p < parts.count; p++) {
                    if (Integer.bitCount(rests[p]) == many) {
                        addStep(p, rests[p]);
                    }
                }
                for (int f = 0; f < fields.count; f++) {
                    if (Integer.bitCount(fields.hangs[f]) == many) {
                        addStep(MOST_PARTS + f, fields.hangs[f] | 1 << f);
                    }
                }
            }
        }

        private void addStep(int step, int moved) {
            if (stepCount < steps.length) {
                steps[stepCount] = step;
                movers[stepCount] = moved;
                stepCount++;
            }
        }
    }

    /** The ring that the latest rule refused for one would have made. */
    private static final class Ring {
        final int[] members = new int[MOST_FIELDS];
        int count;

        /**
         * Without the refused rule there is no ring, so a way back to the first field never meets
         * one that is in this ring already: that a field hangs on the first one is enough.
         */
        void follow(Fields fields, int first, int directOfFirst) {
            int member = first;
            int direct = directOfFirst;
            count = 0;
            while (count < MOST_FIELDS && member != NONE) {
                members[count] = member;
                count++;
                if (hasBit(direct, first)) {
                    return;
                }
                member = fields.leastHanging(direct, first);
                direct = member == NONE ? 0 : fields.direct[member];
            }
        }
    }

    /** What one row of answers comes to: the values of the parts, which fields are shown, which answers count. */
    private static final class Sight {
        final int[] values = new int[MOST_PARTS];
        final boolean[] shown = new boolean[MOST_FIELDS];
        final int[] counted = new int[MOST_FIELDS];

        void look(Net net, int[] answers) {
            for (int i = 0; i < net.stepCount; i++) {
                takeStep(net, answers, net.steps[i]);
            }
        }

        /** As look, if nothing but these fields' answers changed since the last look. */
        void lookAgain(Net net, int[] answers, int changed) {
            for (int i = 0; i < net.stepCount; i++) {
                if ((net.movers[i] & changed) != 0) {
                    takeStep(net, answers, net.steps[i]);
                }
            }
        }

        int valueOf(int rule) {
            return rule == NONE ? LOST : values[rule];
        }

        int statusOf(Fields fields, int f) {
            if (!shown[f]) {
                return HIDDEN;
            }
            if (counted[f] == LOST) {
                return isYes(valueOf(fields.rules[f][NEED])) ? NEEDED : UNANSWERED;
            }
            return valueOf(fields.rules[f][RIGHT]) == 0 ? WRONG : ANSWERED;
        }

        private void takeStep(Net net, int[] answers, int step) {
            if (step < MOST_PARTS) {
                values[step] = workOut(net.parts, step);
            } else {
                takeField(net.fields, answers, step - MOST_PARTS);
            }
        }

        private void takeField(Fields fields, int[] answers, int f) {
            int show = fields.rules[f][SHOW];
            shown[f] = show == NONE || isYes(values[show]);
            int own = fields.made[f] ? valueOf(fields.rules[f][MAKE]) : answers[f];
            counted[f] = shown[f] && fields.inSpan(f, own) ? own : LOST;
        }

        private int workOut(Parts parts, int p) {
            int a = parts.a[p];
            switch (parts.kind[p]) {
                case NUMBER:
                    return a;
                case ANSWER:
                    return counted[a];
                case COUNTED:
                    return truth(counted[a] != LOST);
                case NOT:
                    return values[a] == LOST ? LOST : truth(values[a] == 0);
                case CHOICE:
                    return values[a] == LOST ? LOST : values[values[a] != 0 ? parts.b[p] : parts.c[p]];
                default:
                    return workOutPair(parts.kind[p], values[a], values[parts.b[p]]);
            }
        }

        private static int workOutPair(int kind, int x, int y) {
            if (kind == BOTH && (x == 0 || y == 0)) {
                return 0;
            }
            if (kind == EITHER && (isYes(x) || isYes(y))) {
                return 1;
            }
            if (x == LOST || y == LOST) {
                return LOST;
            }
            switch (kind) {
                case SUM:
                    return cut((long) x + y);
                case DIFFERENCE:
                    return cut((long) x - y);
                case PRODUCT:
                    return cut((long) x * y);
                case ALIKE:
                    return truth(x == y);
                case BELOW:
                    return truth(x < y);
                default:
                    // What would settle the other answer of BOTH or EITHER has been looked for above.
                    return truth(kind == BOTH);
            }
        }

        private static int cut(long v) {
            if (v > FARTHEST_VALUE) {
                return FARTHEST_VALUE;
            }
            return v < -FARTHEST_VALUE ? -FARTHEST_VALUE : (int) v;
        }
    }

    /** The fields that the latest joining found at odds. */
    private static final class Joining {
        final int[] atOdds = new int[MOST_FIELDS];
        int count;

        void begin() {
            count = 0;
        }

        /** The answer of a field that was one and that two made others of. */
        int joinOne(int f, int was, int one, int other) {
            if (one == other || other == was) {
                return one;
            }
            if (one == was) {
                return other;
            }
            if (count < MOST_FIELDS) {
                atOdds[count] = f;
                count++;
            }
            return one;
        }
    }

    /** The seals, with what they keep. */
    private static final class Seals {
        final int[] draft = new int[MOST_SEALS];
        final int[] fields = new int[MOST_SEALS];
        final boolean[] broken = new boolean[MOST_SEALS];
        final int[][] answers = new int[MOST_SEALS][MOST_FIELDS];
        final int[][] statuses = new int[MOST_SEALS][MOST_FIELDS];
        int count;

        boolean has(int s) {
            return s >= 0 && s < count;
        }

        int add(int d, int bits, int[] draftAnswers, Fields known, Sight sight) {
            if (count >= MOST_SEALS) {
                return FULL;
            }
            draft[count] = d;
            fields[count] = bits;
            // Fields may come after the seal, so what it has not is marked for all that there can be.
            for (int f = 0; f < MOST_FIELDS; f++) {
                boolean isIn = hasBit(bits, f);
                answers[count][f] = isIn ? draftAnswers[f] : LOST;
                statuses[count][f] = isIn ? sight.statusOf(known, f) : NONE;
            }
            count++;
            return count - 1;
        }

        int unbrokenBits(int d) {
            int bits = 0;
            for (int s = 0; s < count; s++) {
                if (draft[s] == d && !broken[s]) {
                    bits |= fields[s];
                }
            }
            return bits;
        }

        boolean agrees(int s, Fields known, Sight sight) {
            for (int f = 0; f < known.count; f++) {
                if (hasBit(fields[s], f) && sight.statusOf(known, f) != statuses[s][f]) {
                    return false;
                }
            }
            return true;
        }
    }

    /** The search for a row of answers that shows a field; it leaves the drafts alone. */
    private static final class Trial {
        final int[] row = new int[MOST_FIELDS];
        private final int[] turning = new int[MOST_FIELDS];
        private final Sight sight = new Sight();
        private int turningCount;
        int rowsTried;

        Trial() {
            Arrays.fill(row, LOST);
        }

        int run(Net net, int f) {
            int turningBits = net.fields.hangs[f] & net.fields.askedBits();
            int rows = countRows(net.fields, turningBits);
            if (rows > MOST_ROWS) {
                return SPENT;
            }
            listTurning(turningBits);
            Arrays.fill(row, LOST);
            sight.look(net, row);
            rowsTried = 1;
            while (!sight.shown[f] && rowsTried < rows) {
                sight.lookAgain(net, row, turnRow(net.fields));
                rowsTried++;
            }
            if (!sight.shown[f]) {
                Arrays.fill(row, LOST);
            }
            return truth(sight.shown[f]);
        }

        /** How many rows there are, or more than MOST_ROWS as soon as that is sure, before it grows too great. */
        private static int countRows(Fields fields, int turningBits) {
            int rows = 1;
            for (int f = 0; f < fields.count && rows <= MOST_ROWS; f++) {
                if (hasBit(turningBits, f)) {
                    rows *= fields.high[f] - fields.low[f] + 2;
                }
            }
            return rows;
        }

        private void listTurning(int turningBits) {
            turningCount = 0;
            for (int f = 0; f < MOST_FIELDS; f++) {
                if (hasBit(turningBits, f)) {
                    turning[turningCount] = f;
                    turningCount++;
                }
            }
        }

        /** Puts the next row in place and tells the bits of the fields whose answers that changed. */
        private int turnRow(Fields fields) {
            int changed = 0;
            for (int i = turningCount - 1; i >= 0; i--) {
                int f = turning[i];
                changed |= 1 << f;
                if (row[f] == LOST) {
                    row[f] = fields.low[f];
                    return changed;
                }
                if (row[f] < fields.high[f]) {
                    row[f]++;
                    return changed;
                }
                row[f] = LOST;
            }
            return changed;
        }
    }

    /** The bodies that tell of a field, and the trail that they leave. */
    private static final class Telling {
        int trail;

        int tellOne(Fields fields, int f) {
            return fields.rules[f][NEED] == NONE ? tellPlain(fields, f) : tellNeeded(fields, f);
        }

        int addressOne(Fields fields, int f) {
            return fields.made[f] ? addressMade() : addressLent(f);
        }

        private void leave(int body) {
            trail = 31 * trail + body;
        }

        private int tellPlain(Fields fields, int f) {
            return fields.made[f] ? tellMade(fields, f) : tellAsked(fields, f);
        }

        private int tellAsked(Fields fields, int f) {
            leave(1);
            return fields.high[f] - fields.low[f];
        }

        private int tellMade(Fields fields, int f) {
            leave(2);
            return tellAsked(fields, f) + 1000;
        }

        private int tellNeeded(Fields fields, int f) {
            leave(3);
            return 2 * tellPlain(fields, f);
        }

        private int addressLent(int f) {
            leave(4);
            return 10 * f;
        }

        private int addressMade() {
            leave(5);
            return 5;
        }
    }
}
