/** Counts the answers that are not as due, and ends the program with 1 if there was one. */
final class Check {
    private final String name;
    private int calls;
    private int wrong;

    Check(String name) {
        this.name = name;
    }

    void due(String call, long got, long want) {
        calls++;
        if (got != want) {
            wrong++;
            System.out.println(name + ": " + call + " answered " + got + ", due is " + want);
        }
    }

    void same(String what, Object got, Object want) {
        boolean alike = got.toString().equals(want.toString());
        due(what + " (" + got + ") are as due (" + want + "):", alike ? 1 : 0, 1);
    }

    void end() {
        System.out.println(name + ": " + calls + " answers, " + wrong + " not as due");
        if (wrong != 0 || calls == 0) {
            System.exit(1);
        }
    }
}
