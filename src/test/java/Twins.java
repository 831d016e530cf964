import java.util.ArrayList;
import java.util.Arrays;
import java.util.List;

/**
 * Forms made alike, of which one is asked for what it refuses: after that both must answer alike, at once
 * and when they are changed further. They have something of everything that a refusal could spoil.
 */
final class Twins {
    /** The rule that was refused last for its ring. */
    static final int[] RING_RULE = {0, 0, 2};

    private static final List<String> NAMES = Arrays.asList(Model.NAMES);

    private record Call(int number, int[] arguments) {
        int on(ThinkingForm x) {
            return Model.callOn(x, number, arguments);
        }

        String show() {
            return Model.show(number, arguments);
        }
    }

    private final Edge edge;
    private final boolean full;
    private final List<List<Call>> readings = List.of(readFields(), readDrafts(), readValues(), readSeals());

    Twins(Edge edge, boolean full) {
        this.edge = edge;
        this.full = full;
        hasSomethingToSpoil(make());
    }

    private void hasSomethingToSpoil(ThinkingForm x) {
        edge.due("a ring", x.ring(2), 1);
        edge.due("fields at odds", x.told(5), 3);
        edge.due("a row that was found", x.found(0), 0);
        edge.due("rows that were tried", x.tried(), 2);
        edge.due("a trace", x.trace(), ((3 * 31 + 2) * 31 + 1) * 31 + 4);
        edge.due("a seal that holds", x.sealed(0, 3), 1);
        edge.due("a broken one", x.sealed(1, 2), 1);
        edge.due("a draft that is done", x.done(3), 1);
        edge.due("one that is not", x.done(1), 0);
        edge.due("drafts that are not alike", x.kept(1, 1), 3);
        edge.due("drafts that are not alike", x.kept(3, 1), Edge.LOST);
    }

    /** This call is refused so, and changes nothing that can be told. */
    void refuse(int want, String name, int... arguments) {
        Call call = call(name, arguments);
        for (List<Call> group : readings) {
            ThinkingForm asked = make();
            ThinkingForm spared = make();
            edge.due(call.show(), call.on(asked), want);
            compare(call, group, asked, spared);
            compare(call, changes(), asked, spared);
            compare(call, group.subList(0, Math.min(group.size(), 60)), asked, spared);
        }
    }

    private void compare(Call refused, List<Call> calls, ThinkingForm asked, ThinkingForm spared) {
        for (Call call : calls) {
            edge.due(call.show() + " behind the refused " + refused.show(), call.on(asked), call.on(spared));
        }
    }

    private static Call call(String name, int... arguments) {
        return new Call(NAMES.indexOf(name), Arrays.copyOf(arguments, 4));
    }

    private ThinkingForm make() {
        ThinkingForm x = new ThinkingForm();
        addFields(x);
        addRules(x);
        x.rule(RING_RULE[0], RING_RULE[1], RING_RULE[2]);
        fillDrafts(x);
        x.reach(7);
        x.tell(9);
        x.address(0);
        if (full) {
            fill(x);
        }
        return x;
    }

    /** As many fields, parts and seals as there can be. */
    static void fill(ThinkingForm x) {
        for (int f = 0; f < 12; f++) {
            x.field(0, 9, f % 2);
        }
        for (int p = 0; p < 50; p++) {
            x.part(0, p, 0, 0);
        }
        for (int s = 0; s < 6; s++) {
            x.seal(3, 1 << s);
        }
    }

    private static void addFields(ThinkingForm x) {
        for (int f = 0; f < 10; f++) {
            boolean wide = f == 3 || f == 4;
            x.field(wide ? -1000 : 0, wide ? 1000 : 9, f >= 8 ? 1 : 0);
            x.part(1, f, 0, 0);
        }
        x.part(0, 1, 0, 0);
        x.part(0, 0, 0, 0);
        for (int kind = 2; kind <= 11; kind++) {
            x.part(kind, 0, 1, 2);
        }
        x.part(2, 3, 4, 0);
        x.part(3, 0, 10, 0);
        x.part(2, 8, 9, 0);
    }

    /** 2 by 1 by 0; 5 by what is too wide; 7 by 0 less 1; 6 is needed, 3 is wrong, 8 and 9 are made. */
    private static void addRules(ThinkingForm x) {
        x.rule(1, 0, 0);
        x.rule(2, 0, 1);
        x.rule(5, 0, 22);
        x.rule(7, 0, 23);
        x.rule(6, 1, 10);
        x.rule(3, 2, 11);
        x.rule(8, 3, 12);
        x.rule(9, 3, 23);
        x.rule(9, 1, 10);
    }

    private static void fillDrafts(ThinkingForm x) {
        for (int d = 0; d <= 2; d++) {
            for (int f = d; f < 8; f += 2) {
                x.answer(d, f, 1 + d + f % 3);
            }
        }
        x.join(3, 0, 2, 3);
        x.join(1, 0, 2, 3);
        x.seal(3, 1 | 4 | 1 << 9);
        x.seal(3, 2);
        x.seal(2, 1 << 8);
        x.open(1);
    }

    private static List<Call> readFields() {
        List<Call> calls = new ArrayList<>();
        for (int f = 0; f <= 12; f++) {
            for (int what = 0; what <= 8; what++) {
                calls.add(call("about", f, what));
            }
        }
        for (int f = 0; f < 10; f++) {
            for (int g = 0; g < 10; g++) {
                calls.add(call("hangs", f, g));
            }
        }
        return calls;
    }

    private static List<Call> readDrafts() {
        List<Call> calls = new ArrayList<>();
        for (int i = 0; i <= 12; i++) {
            calls.add(call("ring", i));
            calls.add(call("odds", i));
            calls.add(call("found", i));
            calls.add(call("told", i));
        }
        calls.add(call("told", 13));
        calls.add(call("tried"));
        calls.add(call("trace"));
        for (int d = 0; d <= 3; d++) {
            calls.add(call("done", d));
            for (int f = 0; f < 12; f++) {
                calls.add(call("kept", d, f));
                calls.add(call("counts", d, f));
                calls.add(call("status", d, f));
            }
        }
        return calls;
    }

    private static List<Call> readValues() {
        List<Call> calls = new ArrayList<>();
        for (int d = 0; d <= 3; d++) {
            for (int p = 0; p < 50; p++) {
                calls.add(call("value", d, p));
            }
        }
        return calls;
    }

    private static List<Call> readSeals() {
        List<Call> calls = new ArrayList<>();
        for (int s = 0; s < 6; s++) {
            for (int what = 0; what <= 41; what++) {
                if (what <= 3 || what >= 10 && what <= 21 || what >= 30) {
                    calls.add(call("sealed", s, what));
                }
            }
        }
        return calls;
    }

    /** What a refusal has spoilt in hiding would come to light by these. */
    private static List<Call> changes() {
        return List.of(call("tell", 9), call("trace"), call("field", -5, 5, 0), call("part", 1, 0, 0, 0),
                call("kept", 0, 10), call("kept", 3, 11), call("join", 0, 1, 2, 0), call("told", 5), call("odds", 0),
                call("rule", 1, 0, -9), call("answer", 0, 0, 2), call("answer", 3, 1, 3), call("clear", 0, 2),
                call("rule", 7, 0, 0), call("reach", 7), call("tried"), call("found", 0), call("seal", 1, 511),
                call("open", 0), call("sealed", 2, 3), call("told", 4), call("copy", 1, 2), call("rule", 0, 0, 7),
                call("ring", 1), call("address", 0), call("trace"));
    }
}
