/** Objects with given numbers in them. The answers of the calls that put them there are StateTest's matter. */
final class Tables {
    /** Tables that are not good: the neighbours, and those whose place wraps around to a good one's. */
    static final int[] WRONG_TABLES = {Integer.MIN_VALUE, -(1 << 28), -16, -2, -1, 2, 3, 16, 32, 1 << 27, 1 << 28,
        Integer.MAX_VALUE - 1, Integer.MAX_VALUE};

    private Tables() {
    }

    static int[] row(int... numbers) {
        return numbers;
    }

    /** An object whose table 0 holds these rows; the other table and the target are all 0. */
    static SmithForms with(int[]... rows) {
        SmithForms x = new SmithForms(rows.length, rows[0].length);
        put(x, 0, rows);
        return x;
    }

    static void put(SmithForms x, int t, int[]... rows) {
        for (int row = 0; row < rows.length; row++) {
            for (int column = 0; column < rows[row].length; column++) {
                x.set(t, 4 * row + column, rows[row][column]);
            }
        }
    }

    static void aim(SmithForms x, int... target) {
        for (int row = 0; row < target.length; row++) {
            x.aim(row, target[row]);
        }
    }

    static int bent(int step, int bend) {
        return 32 * (step + 12) + (bend + 12);
    }

    /** No table has a minor of size 4 that is farther from 0. */
    static SmithForms withGreatestMinors() {
        return with(row(12, 12, 12, 12), row(12, -12, 12, -12), row(12, 12, -12, -12), row(12, -12, -12, 12));
    }

    /** Puts a number that is not 0 into every cell of both tables, and answers them all. */
    static int[] putEverywhere(SmithForms x, int m, int n) {
        int[] cells = new int[32];
        for (int t = 0; t <= 1; t++) {
            for (int row = 0; row < m; row++) {
                for (int column = 0; column < n; column++) {
                    int value = (t == 0 ? 1 : -1) * (1 + (5 * row + 3 * column) % 12);
                    cells[16 * t + 4 * row + column] = value;
                    x.set(t, 4 * row + column, value);
                }
            }
        }
        return cells;
    }

    /** All cells that there can be, 16 * t + 4 * row + column, must be these. */
    static void cellsDue(Checks checks, String after, SmithForms x, int[] want) {
        for (int t = 0; t <= 1; t++) {
            for (int row = 0; row < 4; row++) {
                for (int column = 0; column < 4; column++) {
                    checks.due(after + ", get(" + t + ", " + row + ", " + column + ")", x.get(t, row, column),
                            want[16 * t + 4 * row + column]);
                }
            }
        }
    }
}
