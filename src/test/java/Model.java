import java.util.ArrayList;
import java.util.Arrays;
import java.util.HashMap;
import java.util.List;
import java.util.Map;
import java.util.Set;
import java.util.TreeSet;

/**
 * The document once more, as slowly and plainly as it reads: values are looked for by recursion each
 * time anew, null stands for MISSING and for no answer. It shares no way of working with ThinkingForm.
 */
final class Model {
    static final int LOST = -2000000000;
    /** The calls in the order of the document's face. */
    static final String[] NAMES = {"field", "part", "rule", "ring", "about", "hangs", "answer", "clear", "kept", "counts",
        "status", "done", "value", "copy", "join", "odds", "seal", "open", "sealed", "reach", "found", "tried",
        "told", "tell", "address", "trace"};

    private record Part(int kind, int a, int b, int c) { }

    private static final class Field {
        int low, high, kind;
        Integer[] rules = new Integer[4];
    }

    private static final class Seal {
        int draft, fields;
        boolean broken;
        Map<Integer, Integer> answers = new HashMap<>();
        Map<Integer, Integer> statuses = new HashMap<>();
    }

    private final List<Field> fields = new ArrayList<>();
    private final List<Part> parts = new ArrayList<>();
    private final List<Seal> seals = new ArrayList<>();
    private final List<Map<Integer, Integer>> drafts = new ArrayList<>();
    private List<Integer> ring = new ArrayList<>();
    private List<Integer> odds = new ArrayList<>();
    private Map<Integer, Integer> found = new HashMap<>();
    private int tried;
    private int trace;

    Model() {
        for (int d = 0; d < 4; d++) {
            drafts.add(new HashMap<>());
        }
    }

    /** The call of this number in the order of the document's face. */
    int call(int number, int[] x) {
        switch (number) {
            case 0: return field(x[0], x[1], x[2]);
            case 1: return part(x[0], x[1], x[2], x[3]);
            case 2: return rule(x[0], x[1], x[2]);
            case 3: return at(ring, x[0]);
            case 4: return about(x[0], x[1]);
            case 5: return isField(x[0]) && isField(x[1]) ? truth(hangsOn(x[0]).contains(x[1])) : -1;
            case 6: return answer(x[0], x[1], x[2]);
            case 7: return clear(x[0], x[1]);
            case 8: return isPlace(x[0], x[1]) ? lost(keptAnswer(drafts.get(x[0]), x[1])) : LOST;
            case 9: return isPlace(x[0], x[1]) ? lost(counted(drafts.get(x[0]), x[1])) : LOST;
            case 10: return isPlace(x[0], x[1]) ? status(drafts.get(x[0]), x[1]) : -1;
            case 11: return isDraft(x[0]) ? truth(isDone(drafts.get(x[0]))) : -1;
            case 12: return isDraft(x[0]) && isPart(x[1]) ? lost(value(drafts.get(x[0]), x[1])) : LOST;
            case 13: return copy(x[0], x[1]);
            case 14: return join(x[0], x[1], x[2], x[3]);
            case 15: return at(odds, x[0]);
            case 16: return seal(x[0], x[1]);
            case 17: return open(x[0]);
            case 18: return sealed(x[0], x[1]);
            case 19: return reach(x[0]);
            case 20: return isField(x[0]) ? lost(found.get(x[0])) : LOST;
            case 21: return tried;
            case 22: return told(x[0]);
            case 23: return isField(x[0]) ? tell(x[0]) : -1;
            case 24: return isField(x[0]) ? address(x[0]) : -1;
            default: return trace;
        }
    }

    private static int truth(boolean is) {
        return is ? 1 : 0;
    }

    private static int lost(Integer v) {
        return v == null ? LOST : v;
    }

    private static int at(List<Integer> list, int i) {
        return i < 0 || i >= list.size() ? -1 : list.get(i);
    }

    private boolean isField(int f) {
        return f >= 0 && f < fields.size();
    }

    private boolean isPart(int p) {
        return p >= 0 && p < parts.size();
    }

    private boolean isDraft(int d) {
        return d >= 0 && d < 4;
    }

    private boolean isPlace(int d, int f) {
        return isDraft(d) && isField(f);
    }

    private boolean isMade(int f) {
        return fields.get(f).kind == 1;
    }

    private int field(int low, int high, int kind) {
        if (Math.abs((long) low) > 1000 || Math.abs((long) high) > 1000 || low > high || kind < 0 || kind > 1) return -2;
        if (fields.size() == 12) return -4;
        Field f = new Field();
        f.low = low;
        f.high = high;
        f.kind = kind;
        fields.add(f);
        return fields.size() - 1;
    }

    private int part(int kind, int a, int b, int c) {
        if ((kind == 1 || kind == 10) && !isField(a)) return -1;
        if ((kind >= 2 && kind <= 9 || kind == 11) && !isPart(a)) return -1;
        if ((kind >= 2 && kind <= 8 || kind == 11) && !isPart(b)) return -1;
        if (kind == 11 && !isPart(c)) return -1;
        if (kind < 0 || kind > 11) return -2;
        if (kind == 0 && Math.abs((long) a) > 1000000) return -2;
        if (parts.size() == 50) return -4;
        parts.add(new Part(kind, a, b, c));
        return parts.size() - 1;
    }

    private void gather(Integer p, Set<Integer> into) {
        if (p == null) return;
        Part part = parts.get(p);
        int kind = part.kind();
        if (kind == 1 || kind == 10) into.add(part.a());
        if (kind >= 2 && kind <= 9 || kind == 11) gather(part.a(), into);
        if (kind >= 2 && kind <= 8 || kind == 11) gather(part.b(), into);
        if (kind == 11) gather(part.c(), into);
    }

    private Set<Integer> direct(int f) {
        Set<Integer> all = new TreeSet<>();
        gather(fields.get(f).rules[0], all);
        gather(fields.get(f).rules[3], all);
        return all;
    }

    private Set<Integer> hangsOn(int f) {
        Set<Integer> seen = new TreeSet<>();
        List<Integer> open = new ArrayList<>(direct(f));
        while (!open.isEmpty()) {
            int g = open.remove(open.size() - 1);
            if (seen.add(g)) open.addAll(direct(g));
        }
        return seen;
    }

    private int hangers(int f) {
        int many = 0;
        for (int g = 0; g < fields.size(); g++) many += truth(hangsOn(g).contains(f));
        return many;
    }

    private int rule(int f, int which, int part) {
        if (!isField(f) || part != -9 && !isPart(part)) return -1;
        if (which < 0 || which > 3 || which == 3 && !isMade(f)) return -2;
        Integer before = fields.get(f).rules[which];
        fields.get(f).rules[which] = part == -9 ? null : Integer.valueOf(part);
        if (!hangsOn(f).contains(f)) return 1;
        ring = new ArrayList<>(List.of(f));
        while (!direct(ring.get(ring.size() - 1)).contains(f)) {
            for (int g : direct(ring.get(ring.size() - 1))) {
                if (!ring.contains(g) && comesTo(g, f, new ArrayList<>(ring))) {
                    ring.add(g);
                    break;
                }
            }
        }
        fields.get(f).rules[which] = before;
        return -3;
    }

    private boolean comesTo(int g, int first, List<Integer> used) {
        used.add(g);
        if (direct(g).contains(first)) return true;
        for (int h : direct(g)) {
            if (!used.contains(h) && comesTo(h, first, used)) return true;
        }
        return false;
    }

    private int about(int f, int what) {
        if (!isField(f)) return -1;
        Field field = fields.get(f);
        if (what == 0) return field.low;
        if (what == 1) return field.high;
        if (what == 2) return field.kind;
        if (what >= 3 && what <= 6) return field.rules[what - 3] == null ? -9 : field.rules[what - 3];
        if (what == 7) return hangsOn(f).size();
        return what == 8 ? hangers(f) : -2;
    }

    private Integer value(Map<Integer, Integer> row, Integer p) {
        if (p == null) return null;
        Part x = parts.get(p);
        if (x.kind() == 0) return x.a();
        if (x.kind() == 1) return counted(row, x.a());
        if (x.kind() == 10) return truth(counted(row, x.a()) != null);
        Integer a = value(row, x.a());
        if (x.kind() == 11) return a == null ? null : value(row, a != 0 ? x.b() : x.c());
        if (x.kind() == 9) return a == null ? null : Integer.valueOf(truth(a == 0));
        Integer b = value(row, x.b());
        if (x.kind() == 7 && (a != null && a == 0 || b != null && b == 0)) return 0;
        if (x.kind() == 8 && (a != null && a != 0 || b != null && b != 0)) return 1;
        if (a == null || b == null) return null;
        long v;
        switch (x.kind()) {
            case 2: v = (long) a + b; break;
            case 3: v = (long) a - b; break;
            case 4: v = (long) a * b; break;
            case 5: v = truth(a.intValue() == b.intValue()); break;
            case 6: v = truth(a < b); break;
            case 7: v = 1; break;
            default: v = 0;
        }
        return (int) Math.max(-1000000L, Math.min(1000000L, v));
    }

    private boolean isYes(Integer v) {
        return v != null && v != 0;
    }

    private boolean isShown(Map<Integer, Integer> row, int f) {
        Integer show = fields.get(f).rules[0];
        return show == null || isYes(value(row, show));
    }

    private Integer keptAnswer(Map<Integer, Integer> row, int f) {
        return isMade(f) ? value(row, fields.get(f).rules[3]) : row.get(f);
    }

    private Integer counted(Map<Integer, Integer> row, int f) {
        if (!isShown(row, f)) return null;
        Integer v = keptAnswer(row, f);
        return v == null || v < fields.get(f).low || v > fields.get(f).high ? null : v;
    }

    private int status(Map<Integer, Integer> row, int f) {
        if (!isShown(row, f)) return 0;
        if (counted(row, f) == null) return isYes(value(row, fields.get(f).rules[1])) ? 2 : 1;
        Integer right = value(row, fields.get(f).rules[2]);
        return right != null && right == 0 ? 4 : 3;
    }

    private boolean isDone(Map<Integer, Integer> row) {
        for (int f = 0; f < fields.size(); f++) {
            int s = status(row, f);
            if (s == 2 || s == 4) return false;
        }
        return true;
    }

    private boolean isLocked(int d, int f) {
        if (isMade(f)) return false;
        for (Seal s : seals) {
            if (!s.broken && s.draft == d && (s.fields & 1 << f) != 0) return true;
        }
        return false;
    }

    private boolean hasLocked(int d) {
        for (int f = 0; f < fields.size(); f++) {
            if (isLocked(d, f)) return true;
        }
        return false;
    }

    private int answer(int d, int f, int v) {
        if (!isPlace(d, f)) return -1;
        if (isMade(f)) return -3;
        if (v < fields.get(f).low || v > fields.get(f).high) return -2;
        if (isLocked(d, f)) return -3;
        drafts.get(d).put(f, v);
        return hangers(f);
    }

    private int clear(int d, int f) {
        if (!isPlace(d, f)) return -1;
        if (isMade(f) || isLocked(d, f)) return -3;
        return truth(drafts.get(d).remove(f) != null);
    }

    private int copy(int a, int d) {
        if (!isDraft(a) || !isDraft(d)) return -1;
        if (hasLocked(d)) return -3;
        int others = 0;
        for (int f = 0; f < fields.size(); f++) {
            others += truth(lost(drafts.get(a).get(f)) != lost(drafts.get(d).get(f)));
        }
        drafts.set(d, new HashMap<>(drafts.get(a)));
        return others;
    }

    private int join(int a, int b, int c, int d) {
        if (!isDraft(a) || !isDraft(b) || !isDraft(c) || !isDraft(d)) return -1;
        if (hasLocked(d)) return -3;
        odds = new ArrayList<>();
        Map<Integer, Integer> joined = new HashMap<>();
        for (int f = 0; f < fields.size(); f++) {
            int was = lost(drafts.get(a).get(f));
            int one = lost(drafts.get(b).get(f));
            int two = lost(drafts.get(c).get(f));
            int becomes;
            if (one == two) {
                becomes = one;
            } else if (one == was) {
                becomes = two;
            } else if (two == was) {
                becomes = one;
            } else {
                becomes = one;
                odds.add(f);
            }
            if (becomes != LOST) joined.put(f, becomes);
        }
        drafts.set(d, joined);
        return odds.size();
    }

    private int seal(int d, int bits) {
        if (!isDraft(d)) return -1;
        if (bits < 1 || bits > (1 << fields.size()) - 1) return -2;
        if (seals.size() == 6) return -4;
        Seal s = new Seal();
        s.draft = d;
        s.fields = bits;
        for (int f = 0; f < fields.size(); f++) {
            if ((bits & 1 << f) != 0) {
                if (!isMade(f)) s.answers.put(f, drafts.get(d).get(f));
                s.statuses.put(f, status(drafts.get(d), f));
            }
        }
        seals.add(s);
        return seals.size() - 1;
    }

    private int open(int s) {
        if (s < 0 || s >= seals.size()) return -1;
        boolean was = seals.get(s).broken;
        seals.get(s).broken = true;
        return truth(!was);
    }

    private boolean isHolding(Seal s) {
        if (s.broken) return false;
        for (Map.Entry<Integer, Integer> e : s.statuses.entrySet()) {
            if (status(drafts.get(s.draft), e.getKey()) != e.getValue()) return false;
        }
        return true;
    }

    private int sealed(int number, int what) {
        if (number < 0 || number >= seals.size()) return -1;
        Seal s = seals.get(number);
        if (what == 0) return s.draft;
        if (what == 1) return s.fields;
        if (what == 2) return truth(s.broken);
        if (what == 3) return truth(isHolding(s));
        for (int f = 0; f < fields.size(); f++) {
            if (what == 10 + f) return lost(s.answers.get(f));
            if (what == 30 + f) return s.statuses.getOrDefault(f, -9);
        }
        return -2;
    }

    private int reach(int f) {
        if (!isField(f)) return -1;
        List<Integer> turning = new ArrayList<>();
        double rows = 1;
        for (int g : hangsOn(f)) {
            if (!isMade(g)) {
                turning.add(g);
                rows *= fields.get(g).high - fields.get(g).low + 2;
            }
        }
        if (rows > 20000) return -6;
        tried = 0;
        Map<Integer, Integer> row = new HashMap<>();
        boolean shows = turn(f, turning, 0, row);
        found = shows ? row : new HashMap<>();
        return truth(shows);
    }

    private boolean turn(int f, List<Integer> turning, int at, Map<Integer, Integer> row) {
        if (at == turning.size()) {
            tried++;
            return isShown(row, f);
        }
        int g = turning.get(at);
        row.remove(g);
        if (turn(f, turning, at + 1, row)) return true;
        for (int v = fields.get(g).low; v <= fields.get(g).high; v++) {
            row.put(g, v);
            if (turn(f, turning, at + 1, row)) return true;
        }
        row.remove(g);
        return false;
    }

    private int told(int what) {
        int many = 0;
        switch (what) {
            case 0: return fields.size();
            case 1: return parts.size();
            case 2:
                for (Field f : fields) many += truth(f.kind == 0);
                return many;
            case 3: return seals.size();
            case 4:
                for (Seal s : seals) many += truth(isHolding(s));
                return many;
            case 5: return odds.size();
            default: return what >= 10 && what <= 13 ? drafts.get(what - 10).size() : -2;
        }
    }

    private void leave(int... bodies) {
        for (int body : bodies) trace = trace * 31 + body;
    }

    private int tell(int f) {
        Field field = fields.get(f);
        int factor = 1;
        if (field.rules[1] != null) {
            leave(3);
            factor = 2;
        }
        if (field.kind == 1) leave(2);
        leave(1);
        return factor * (field.high - field.low + (field.kind == 1 ? 1000 : 0));
    }

    private int address(int f) {
        leave(isMade(f) ? 5 : 4);
        return isMade(f) ? 5 : 10 * f;
    }

    static int callOn(ThinkingForm form, int number, int[] x) {
        switch (number) {
            case 0: return form.field(x[0], x[1], x[2]);
            case 1: return form.part(x[0], x[1], x[2], x[3]);
            case 2: return form.rule(x[0], x[1], x[2]);
            case 3: return form.ring(x[0]);
            case 4: return form.about(x[0], x[1]);
            case 5: return form.hangs(x[0], x[1]);
            case 6: return form.answer(x[0], x[1], x[2]);
            case 7: return form.clear(x[0], x[1]);
            case 8: return form.kept(x[0], x[1]);
            case 9: return form.counts(x[0], x[1]);
            case 10: return form.status(x[0], x[1]);
            case 11: return form.done(x[0]);
            case 12: return form.value(x[0], x[1]);
            case 13: return form.copy(x[0], x[1]);
            case 14: return form.join(x[0], x[1], x[2], x[3]);
            case 15: return form.odds(x[0]);
            case 16: return form.seal(x[0], x[1]);
            case 17: return form.open(x[0]);
            case 18: return form.sealed(x[0], x[1]);
            case 19: return form.reach(x[0]);
            case 20: return form.found(x[0]);
            case 21: return form.tried();
            case 22: return form.told(x[0]);
            case 23: return form.tell(x[0]);
            case 24: return form.address(x[0]);
            default: return form.trace();
        }
    }

    static String show(int number, int[] x) {
        return NAMES[number] + Arrays.toString(x);
    }
}
