/** Counts answers that are not as due, prints each, and ends the test. */
final class Check {
    private static final int MOST_PRINTED = 50;

    private final String name;
    private int checks;
    private int wrong;

    Check(String name) {
        this.name = name;
    }

    void due(String what, long got, long want) {
        checks++;
        if (got != want) {
            fail(what + " answered " + got + ", due is " + want);
        }
    }

    void holds(String what, boolean truth) {
        checks++;
        if (!truth) {
            fail(what);
        }
    }

    boolean hasFailed() {
        return wrong > 0;
    }

    void end() {
        System.out.println(name + ": " + checks + " checks, " + wrong + " wrong");
        if (wrong > 0 || checks == 0) {
            System.exit(1);
        }
    }

    private void fail(String text) {
        wrong++;
        if (wrong <= MOST_PRINTED) {
            System.out.println(name + ": " + text);
        }
    }
}
