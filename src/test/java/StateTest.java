import java.util.HashMap;
import java.util.Map;

/** Promises 1 to 8: making an object, changing it, and reading its numbers. */
public final class StateTest {
    private static final int[] TABLES = {Integer.MIN_VALUE, -2, -1, 0, 1, 2, 3, 4, Integer.MAX_VALUE};
    private static final int[] VALUES = {Integer.MIN_VALUE, -200, -13, -12, -1, 0, 1, 12, 13, 200, Integer.MAX_VALUE};
    private static final Checks checks = new Checks();

    public static void main(String[] args) {
        promises1To3Sizes();
        promise1AllZeroAtFirst();
        promise4SetAnswersAndChanges();
        promise4TestsInOrder();
        promise5FillAnswersAndChanges();
        promise5TestsInOrder();
        promise5RefusedFillChangesNothing();
        promise6AimAnswersAndChanges();
        promise6RefusedAimChangesNothing();
        promise7Mirror();
        promise7RefusedMirrorChangesNothing();
        promise8GetOutside();
        checks.end();
    }

    private static void promises1To3Sizes() {
        int[] given = {Integer.MIN_VALUE, -4, -1, 0, 1, 2, 3, 4, 5, 6, 100, Integer.MAX_VALUE};
        int[] becomes = {1, 1, 1, 1, 1, 2, 3, 4, 4, 4, 4, 4};
        for (int i = 0; i < given.length; i++) {
            for (int j = 0; j < given.length; j++) {
                SmithForms x = new SmithForms(given[i], given[j]);
                String made = "new(" + given[i] + ", " + given[j] + ").";
                checks.due(made + "rows()", x.rows(), becomes[i]);
                checks.due(made + "columns()", x.columns(), becomes[j]);
            }
        }
    }

    private static void promise1AllZeroAtFirst() {
        for (int m = 1; m <= 4; m++) {
            for (int n = 1; n <= 4; n++) {
                SmithForms x = new SmithForms(m, n);
                expectCells("new(" + m + ", " + n + ")", x, new int[32]);
                checks.due("reaches(0) of the new object", x.reaches(0), 1);
                checks.due("rank(1) of the new object", x.rank(1), 0);
            }
        }
    }

    private static void promise4SetAnswersAndChanges() {
        for (int m = 1; m <= 4; m++) {
            for (int n = 1; n <= 4; n++) {
                for (int at = -20; at <= 40; at++) {
                    setOnce(m, n, at);
                }
                setOnce(m, n, Integer.MIN_VALUE);
                setOnce(m, n, Integer.MAX_VALUE);
            }
        }
    }

    private static void setOnce(int m, int n, int at) {
        for (int t : TABLES) {
            for (int value : VALUES) {
                SmithForms x = new SmithForms(m, n);
                int[] want = new int[32];
                boolean goodTable = t == 0 || t == 1;
                boolean goodCell = false;
                for (int row = 0; row < m; row++) {
                    for (int column = 0; column < n; column++) {
                        goodCell |= at == 4 * row + column;
                    }
                }
                int due = !goodTable ? -1 : !goodCell ? -2 : value < -12 || value > 12 ? -3 : 0;
                if (due == 0) {
                    want[16 * t + at] = value;
                }
                String call = "new(" + m + ", " + n + ").set(" + t + ", " + at + ", " + value + ")";
                checks.due(call, x.set(t, at, value), due);
                expectCells(call, x, want);
            }
        }
    }

    private static void promise4TestsInOrder() {
        SmithForms x = new SmithForms(2, 3);
        checks.due("set(2, -1, 13)", x.set(2, -1, 13), -1);
        checks.due("set(1, 3, 13)", x.set(1, 3, 13), -2);
        checks.due("set(1, 2, 13)", x.set(1, 2, 13), -3);
        checks.due("set(1, 2, 12)", x.set(1, 2, 12), 0);
        checks.due("set(1, 2, -13)", x.set(1, 2, -13), -3);
        checks.due("get(1, 0, 2) after a refused set", x.get(1, 0, 2), 12);
        checks.due("set(1, 2, -12)", x.set(1, 2, -12), 0);
        checks.due("get(1, 0, 2)", x.get(1, 0, 2), -12);
    }

    private static void promise5FillAnswersAndChanges() {
        Map<Integer, int[]> bents = new HashMap<>();
        for (int step = -12; step <= 12; step++) {
            for (int bend = -12; bend <= 12; bend++) {
                bents.put(32 * (step + 12) + (bend + 12), new int[] {step, bend});
            }
        }
        for (int n = 1; n <= 4; n++) {
            for (int bent = -450; bent <= 900; bent++) {
                for (int start = -14; start <= 14; start++) {
                    fillOnce(n, start, bent, bents.get(bent));
                }
            }
            for (int bent : new int[] {Integer.MIN_VALUE, Integer.MIN_VALUE + 396, Integer.MAX_VALUE}) {
                fillOnce(n, 0, bent, null);
            }
            for (int start : new int[] {Integer.MIN_VALUE, Integer.MAX_VALUE}) {
                fillOnce(n, start, 396, bents.get(396));
                fillOnce(n, start, 0, bents.get(0));
                fillOnce(n, start, 792, bents.get(792));
            }
        }
    }

    private static void fillOnce(int n, int start, int bent, int[] stepAndBend) {
        SmithForms x = new SmithForms(2, n);
        int[] want = new int[32];
        boolean fits = stepAndBend != null && start >= -12 && start <= 12;
        for (int j = 0; fits && j < n; j++) {
            int value = start + j * stepAndBend[0] + j * j * stepAndBend[1];
            fits = value >= -12 && value <= 12;
            want[16 + 4 + j] = value;
        }
        String call = "new(2, " + n + ").fill(1, 1, " + start + ", " + bent + ")";
        checks.due(call, x.fill(1, 1, start, bent), fits ? 0 : -3);
        expectCells(call, x, fits ? want : new int[32]);
    }

    private static void promise5TestsInOrder() {
        for (int m = 1; m <= 4; m++) {
            for (int t : TABLES) {
                for (int row : new int[] {Integer.MIN_VALUE, -1, 0, 1, 2, 3, 4, 5, Integer.MAX_VALUE}) {
                    int due = t != 0 && t != 1 ? -1 : row < 0 || row >= m ? -2 : 0;
                    SmithForms x = new SmithForms(m, 4);
                    String where = t + ", " + row;
                    checks.due("fill(" + where + ", 13, -1)", x.fill(t, row, 13, -1), due == 0 ? -3 : due);
                    expectCells("a refused fill", x, new int[32]);
                    checks.due("fill(" + where + ", 3, 428)", x.fill(t, row, 3, 428), due);
                    int[] want = new int[32];
                    for (int j = 0; due == 0 && j < 4; j++) {
                        want[16 * t + 4 * row + j] = 3 + j;
                    }
                    expectCells("fill(" + where + ", 3, 428)", x, want);
                }
            }
        }
    }

    private static void promise5RefusedFillChangesNothing() {
        SmithForms x = new SmithForms(1, 4);
        checks.due("fill(0, 0, 1, 397)", x.fill(0, 0, 1, 397), 0);
        int[] want = new int[32];
        want[0] = 1;
        want[1] = 2;
        want[2] = 5;
        want[3] = 10;
        expectCells("fill(0, 0, 1, 397)", x, want);
        checks.due("fill whose last number is 13", x.fill(0, 0, 10, 428), -3);
        expectCells("fill whose last number is 13", x, want);
        checks.due("fill whose last number is -13", x.fill(0, 0, -10, 364), -3);
        expectCells("fill whose last number is -13", x, want);
        checks.due("fill whose middle numbers are too great", x.fill(0, 0, 5, 32 * 24 + 8), -3);
        expectCells("fill whose middle numbers are too great", x, want);
    }

    private static void promise6AimAnswersAndChanges() {
        int[] values = {Integer.MIN_VALUE, -201, -200, -13, 0, 13, 200, 201, Integer.MAX_VALUE};
        for (int m = 1; m <= 4; m++) {
            for (int row : new int[] {Integer.MIN_VALUE, -1, 0, 1, 2, 3, 4, 5, Integer.MAX_VALUE}) {
                for (int value : values) {
                    SmithForms x = new SmithForms(m, 1);
                    int due = row < 0 || row >= m ? -1 : value < -200 || value > 200 ? -2 : 0;
                    String call = "new(" + m + ", 1).aim(" + row + ", " + value + ")";
                    checks.due(call, x.aim(row, value), due);
                    // The table is all 0, so only a target of 0 is reached.
                    checks.due(call + ", reaches(0)", x.reaches(0), due == 0 && value != 0 ? 0 : 1);
                }
            }
        }
        SmithForms x = new SmithForms(3, 1);
        x.aim(0, 200);
        x.aim(1, -200);
        x.aim(2, 100);
        x.set(0, 0, 10);
        x.set(0, 4, -10);
        x.set(0, 8, 5);
        checks.due("reaches(0), each row with its own number", x.reaches(0), 1);
        x.aim(1, 200);
        checks.due("reaches(0), one row changed", x.reaches(0), 0);
    }

    private static void promise6RefusedAimChangesNothing() {
        SmithForms x = new SmithForms(1, 1);
        x.set(0, 0, 5);
        checks.due("aim(0, 7)", x.aim(0, 7), 0);
        checks.due("aim(0, 205)", x.aim(0, 205), -2);
        checks.due("aim(0, -205)", x.aim(0, -205), -2);
        checks.due("aim(1, 5)", x.aim(1, 5), -1);
        checks.due("aim(1, 205)", x.aim(1, 205), -1);
        checks.due("multiple(0) after refused aims", x.multiple(0), 5);
        checks.due("aim(0, 10)", x.aim(0, 10), 0);
        checks.due("multiple(0) after a new aim", x.multiple(0), 1);
    }

    private static void promise7Mirror() {
        for (int m = 1; m <= 4; m++) {
            for (int n = 1; n <= 4; n++) {
                for (int t = 0; t <= 1; t++) {
                    SmithForms x = new SmithForms(m, n);
                    int[] want = numbered(x, m, n);
                    for (int row = 0; row < m; row++) {
                        for (int column = 0; column < n; column++) {
                            want[16 * t + 4 * row + column] = want[16 * (1 - t) + 4 * row + n - 1 - column];
                        }
                    }
                    String call = "new(" + m + ", " + n + "), .., mirror(" + t + ")";
                    checks.due(call, x.mirror(t), 0);
                    expectCells(call, x, want);
                }
            }
        }
    }

    private static void promise7RefusedMirrorChangesNothing() {
        for (int t : TABLES) {
            if (t != 0 && t != 1) {
                SmithForms x = new SmithForms(3, 4);
                int[] want = numbered(x, 3, 4);
                checks.due("mirror(" + t + ")", x.mirror(t), -1);
                expectCells("mirror(" + t + ")", x, want);
            }
        }
        SmithForms x = new SmithForms(1, 1);
        x.aim(0, 6);
        x.set(0, 0, 4);
        x.mirror(1);
        checks.due("multiple(1): mirror leaves the target", x.multiple(1), 2);
    }

    private static void promise8GetOutside() {
        int[] places = {Integer.MIN_VALUE, -5, -4, -1, 0, 1, 2, 3, 4, 5, 8, 16, Integer.MAX_VALUE};
        for (int m = 1; m <= 4; m++) {
            for (int n = 1; n <= 4; n++) {
                for (int t : TABLES) {
                    SmithForms x = new SmithForms(m, n);
                    int[] cells = numbered(x, m, n);
                    for (int row : places) {
                        for (int column : places) {
                            boolean good = (t == 0 || t == 1) && row >= 0 && row < m && column >= 0 && column < n;
                            checks.due("get(" + t + ", " + row + ", " + column + ")", x.get(t, row, column),
                                    good ? cells[16 * t + 4 * row + column] : 0);
                        }
                    }
                }
            }
        }
    }

    /** Sets every number of both tables to one that is not 0, neighbours to different ones. */
    private static int[] numbered(SmithForms x, int m, int n) {
        int[] cells = new int[32];
        for (int t = 0; t <= 1; t++) {
            for (int row = 0; row < m; row++) {
                for (int column = 0; column < n; column++) {
                    int value = (t == 0 ? 1 : -1) * (1 + (4 * row + 3 * column) % 12);
                    cells[16 * t + 4 * row + column] = value;
                    checks.due("set(" + t + ", ..)", x.set(t, 4 * row + column, value), 0);
                }
            }
        }
        return cells;
    }

    private static void expectCells(String after, SmithForms x, int[] want) {
        for (int t = 0; t <= 1; t++) {
            for (int row = 0; row < 4; row++) {
                for (int column = 0; column < 4; column++) {
                    checks.due(after + ", get(" + t + ", " + row + ", " + column + ")", x.get(t, row, column),
                            want[16 * t + 4 * row + column]);
                }
            }
        }
    }
}
