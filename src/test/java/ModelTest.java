/** Long runs of calls, the same each time, answered by ThinkingForm and by the slow Model alike. */
public final class ModelTest {
    private static final int CALLS = 512;
    private static final Check check = new Check("ModelTest");
    private static final int[] WILD = {Integer.MIN_VALUE, -1001, -9, -1, 4, 12, 50, 1001, Integer.MAX_VALUE};
    /** How often each call comes, by its number. */
    private static final int[] WEIGHTS = {3, 8, 8, 4, 4, 3, 24, 3, 4, 5, 8, 3, 8, 2, 6, 4, 1, 1, 4, 4, 6, 2, 4, 1, 1, 1};

    private final Model model = new Model();
    private long seed;

    private ModelTest(long seed) {
        this.seed = seed;
    }

    public static void main(String[] args) {
        for (int run = 0; run < 600; run++) {
            new ModelTest(run * 7919L + 17).runCalls(run);
        }
        check.end();
    }

    private void runCalls(int run) {
        ThinkingForm form = new ThinkingForm();
        int made = 1 + run % 12;
        for (int call = 0; call < CALLS; call++) {
            int number = call < made ? 0 : call < made * 4 ? 1 : pickCall();
            int[] x = arguments(number);
            check.due("run " + run + " call " + call + " " + Model.show(number, x),
                    Model.callOn(form, number, x), model.call(number, x));
        }
    }

    private int next(int bound) {
        seed = seed * 6364136223846793005L + 1442695040888963407L;
        return (int) ((seed >>> 33) % bound);
    }

    private int pickCall() {
        int total = 0;
        for (int weight : WEIGHTS) {
            total += weight;
        }
        int at = next(total);
        for (int number = 0; number < WEIGHTS.length; number++) {
            at -= WEIGHTS[number];
            if (at < 0) {
                return number;
            }
        }
        return WEIGHTS.length - 1;
    }

    /** Mostly a number of something that there is: this many, told by the model. */
    private int known(int what, int most) {
        int many = model.call(22, new int[] {what});
        return many == 0 || next(20) == 0 ? next(most) : next(many);
    }

    private int field() {
        return known(0, 12);
    }

    private int part() {
        return known(1, 50);
    }

    private int seal() {
        return known(3, 6);
    }

    private int mostlyInSpan(int f) {
        int low = model.call(4, new int[] {f, 0});
        int high = model.call(4, new int[] {f, 1});
        return high < low ? 0 : low - (next(10) == 0 ? 1 : 0) + next(Math.min(high - low, 3) + 1);
    }

    private int draft() {
        return next(4);
    }

    private int[] arguments(int number) {
        int[] x = likely(number);
        for (int i = 0; i < x.length; i++) {
            if (next(40) == 0) {
                x[i] = WILD[next(WILD.length)];
            }
        }
        return x;
    }

    private int[] likely(int number) {
        switch (number) {
            case 0: {
                int low = next(4) - 2;
                int wide = next(20) == 0 ? next(300) : next(4);
                return new int[] {low, low + wide, next(3) == 0 ? 1 : 0, 0};
            }
            case 1: {
                int kind = next(3) == 0 ? 1 : next(12);
                boolean ofField = kind == 1 || kind == 10;
                return new int[] {kind, kind == 0 ? next(7) - 3 : ofField ? field() : part(), part(), part()};
            }
            case 2: return new int[] {field(), next(3) == 0 ? next(4) : next(2) * 3, next(8) == 0 ? -9 : part(), 0};
            case 3: return new int[] {next(6), 0, 0, 0};
            case 4: return new int[] {field(), next(9), 0, 0};
            case 5: return new int[] {field(), field(), 0, 0};
            case 6: {
                int f = field();
                return new int[] {draft(), f, mostlyInSpan(f), 0};
            }
            case 12: return new int[] {draft(), part(), 0, 0};
            case 13: return new int[] {draft(), draft(), 0, 0};
            case 14: return new int[] {draft(), draft(), draft(), draft()};
            case 15: return new int[] {next(3), 0, 0, 0};
            case 16: return new int[] {draft(), 1 << field() | (next(2) == 0 ? 1 << field() : 0), 0, 0};
            case 17: return new int[] {seal(), 0, 0, 0};
            case 18: return new int[] {seal(), next(4) == 0 ? next(4) : next(2) * 20 + 10 + next(12), 0, 0};
            case 22: return new int[] {next(2) == 0 ? next(6) : 10 + next(4), 0, 0, 0};
            case 19:
            case 20:
            case 23:
            case 24: return new int[] {field(), 0, 0, 0};
            default: return new int[] {draft(), field(), 0, 0};
        }
    }
}
