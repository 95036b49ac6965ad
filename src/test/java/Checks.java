/** Counts the answers that are not as due, and ends the test with exit code 1 if there are any. */
final class Checks {
    private int wrong = 0;
    private int made = 0;

    void due(String what, long got, long want) {
        made++;
        if (got != want) {
            wrong++;
            System.out.println(what + " answered " + got + ", due is " + want);
        }
    }

    void holds(String what, boolean so) {
        made++;
        if (!so) {
            wrong++;
            System.out.println("does not hold: " + what);
        }
    }

    boolean failed() {
        return wrong != 0;
    }

    void end() {
        System.out.println(made + " checks, " + wrong + " wrong");
        if (failed()) {
            System.exit(1);
        }
    }
}
