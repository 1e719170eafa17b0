/** The object of the document, told as plainly as can be, for long runs to be set against. */
final class Model {
    private final int m;
    private final int n;
    private final int[][][] tables;
    private final int[] target;

    Model(int rows, int columns) {
        m = Math.max(1, Math.min(4, rows));
        n = Math.max(1, Math.min(4, columns));
        tables = new int[2][m][n];
        target = new int[m];
    }

    private static boolean in(int low, int high, int number) {
        return number >= low && number <= high;
    }

    private static boolean isTable(int t) {
        return in(0, 1, t);
    }

    int rows() {
        return m;
    }

    int columns() {
        return n;
    }

    int set(int t, int at, int value) {
        int row = Math.floorDiv(at, 4);
        int column = Math.floorMod(at, 4);
        if (!isTable(t)) {
            return -1;
        }
        if (!in(0, m - 1, row) || !in(0, n - 1, column)) {
            return -2;
        }
        if (!in(-12, 12, value)) {
            return -3;
        }
        tables[t][row][column] = value;
        return 0;
    }

    int fill(int t, int row, int start, int bent) {
        if (!isTable(t)) {
            return -1;
        }
        if (!in(0, m - 1, row)) {
            return -2;
        }
        int step = Math.floorDiv(bent, 32) - 12;
        int bend = Math.floorMod(bent, 32) - 12;
        if (!in(-12, 12, start) || !in(-12, 12, step) || !in(-12, 12, bend)) {
            return -3;
        }
        int[] numbers = new int[n];
        for (int j = 0; j < n; j++) {
            numbers[j] = start + j * step + j * j * bend;
            if (!in(-12, 12, numbers[j])) {
                return -3;
            }
        }
        tables[t][row] = numbers;
        return 0;
    }

    int aim(int row, int value) {
        if (!in(0, m - 1, row)) {
            return -1;
        }
        if (!in(-200, 200, value)) {
            return -2;
        }
        target[row] = value;
        return 0;
    }

    int mirror(int t) {
        if (!isTable(t)) {
            return -1;
        }
        int[][] mirrored = new int[m][n];
        for (int i = 0; i < m; i++) {
            for (int j = 0; j < n; j++) {
                mirrored[i][j] = tables[1 - t][i][n - 1 - j];
            }
        }
        tables[t] = mirrored;
        return 0;
    }

    int get(int t, int row, int column) {
        return isTable(t) && in(0, m - 1, row) && in(0, n - 1, column) ? tables[t][row][column] : 0;
    }

    long rank(int t) {
        return isTable(t) ? Oracle.rank(tables[t]) : -1;
    }

    long divisor(int t, int k) {
        return !isTable(t) ? -1 : in(0, 4, k) ? Oracle.divisor(tables[t], k) : -2;
    }

    long factor(int t, int k) {
        return !isTable(t) ? -1 : in(1, 4, k) ? Oracle.factor(tables[t], k) : -2;
    }

    long reaches(int t) {
        return isTable(t) ? Oracle.reaches(tables[t], target) : -1;
    }

    long multiple(int t) {
        return isTable(t) ? Oracle.multiple(tables[t], target) : -1;
    }

    long solutions(int t, int p) {
        return !isTable(t) ? -1 : in(1, 6, p) ? Oracle.solutions(tables[t], target, p) : -2;
    }

    long within(int t) {
        return isTable(t) ? Oracle.within(tables[t], tables[1 - t]) : -1;
    }

    long classes(int t) {
        return isTable(t) ? Oracle.classes(tables[t]) : -1;
    }

    long determinant(int t) {
        return isTable(t) ? Oracle.determinant(tables[t]) : 0;
    }
}
