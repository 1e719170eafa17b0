/** Counts answers that are not the due ones, and ends a test with what was counted. */
final class Checks {
    private int made = 0;
    private int wrong = 0;

    void due(String call, long got, long want) {
        made++;
        if (got != want) {
            wrong++;
            System.out.println(call + " answered " + got + ", due is " + want);
        }
    }

    void holds(String what, boolean truth) {
        made++;
        if (!truth) {
            wrong++;
            System.out.println("does not hold: " + what);
        }
    }

    void end() {
        System.out.println(made + " checks, " + wrong + " wrong");
        if (wrong != 0 || made == 0) {
            System.exit(1);
        }
    }
}
