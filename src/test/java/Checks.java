/** Counts answers that are not the due ones, and ends a test with what was counted. */
final class Checks {
    private static final int PRINTED_OF_ONE_PLACE = 20;

    private String place = "";
    private int made = 0;
    private int wrong = 0;
    private int wrongHere = 0;

    /** What is checked from now on belongs to this place. */
    void begin(String newPlace) {
        place = newPlace + ": ";
        wrongHere = 0;
    }

    void due(String call, long got, long want) {
        made++;
        if (got != want) {
            tell(call + " answered " + got + ", due is " + want);
        }
    }

    void holds(String what, boolean truth) {
        made++;
        if (!truth) {
            tell("does not hold: " + what);
        }
    }

    int made() {
        return made;
    }

    void end() {
        System.out.println(made + " checks, " + wrong + " wrong");
        if (wrong != 0 || made == 0) {
            System.exit(1);
        }
    }

    private void tell(String what) {
        wrong++;
        wrongHere++;
        if (wrongHere <= PRINTED_OF_ONE_PLACE) {
            System.out.println(place + what);
        }
        if (wrongHere == PRINTED_OF_ONE_PLACE) {
            System.out.println(place + "more of the same is counted, not printed");
        }
    }
}
