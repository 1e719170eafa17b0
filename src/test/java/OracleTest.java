/** Promises 9 to 17 on some thousands of tables of many kinds, against answers reckoned another way. */
public final class OracleTest {
    private static final int ROUNDS = 6000;
    private static final Checks checks = new Checks();
    private static final Thrown thrown = new Thrown(20240611L);

    public static void main(String[] args) {
        for (int round = 0; round < ROUNDS; round++) {
            oneRound(round);
        }
        checks.end();
    }

    private static void oneRound(int round) {
        int m = thrown.between(1, 4);
        int n = thrown.between(1, 4);
        SmithForms x = new SmithForms(m, n);
        int[][] first = madeTable(m, n);
        int[][] second = thrown.between(0, 2) == 0 ? madeTable(m, n) : relatedTable(first, m, n);
        int[] target = madeTarget(first, m, n);
        for (int i = 0; i < m; i++) {
            x.aim(i, target[i]);
            for (int j = 0; j < n; j++) {
                x.set(0, 4 * i + j, first[i][j]);
                x.set(1, 4 * i + j, second[i][j]);
            }
        }
        compare("round " + round + ", ", x, 0, first, second, target);
        compare("round " + round + ", ", x, 1, second, first, target);
    }

    private static void compare(String where, SmithForms x, int t, int[][] table, int[][] other, int[] target) {
        for (int k = 0; k <= 4; k++) {
            checks.due(where + "divisor(" + t + ", " + k + ")", x.divisor(t, k), Oracle.divisor(table, k));
        }
        for (int k = 1; k <= 4; k++) {
            checks.due(where + "factor(" + t + ", " + k + ")", x.factor(t, k), Oracle.factor(table, k));
        }
        for (int p = 1; p <= 6; p++) {
            checks.due(where + "solutions(" + t + ", " + p + ")", x.solutions(t, p),
                    Oracle.solutions(table, target, p));
        }
        checks.due(where + "rank(" + t + ")", x.rank(t), Oracle.rank(table));
        checks.due(where + "determinant(" + t + ")", x.determinant(t), Oracle.determinant(table));
        checks.due(where + "classes(" + t + ")", x.classes(t), Oracle.classes(table));
        checks.due(where + "reaches(" + t + ")", x.reaches(t), Oracle.reaches(table, target));
        checks.due(where + "multiple(" + t + ")", x.multiple(t), Oracle.multiple(table, target));
        checks.due(where + "within(" + t + ")", x.within(t), Oracle.within(table, other));
    }

    // ---- what is asked about

    private static int[][] madeTable(int m, int n) {
        int kind = thrown.between(0, 4);
        int[][] table = new int[m][n];
        int scale = kind == 1 ? thrown.between(1, 6) : 1;
        int reach = kind == 0 ? 12 : kind == 1 ? 12 / scale : thrown.between(1, 3);
        for (int i = 0; i < m; i++) {
            for (int j = 0; j < n; j++) {
                table[i][j] = scale * thrown.between(-reach, reach);
                if (kind == 2 && thrown.between(0, 1) == 0) {
                    table[i][j] = 0;
                }
            }
        }
        if (kind == 3) {
            dependRow(table, m, n);
        }
        if (kind == 4) {
            dependColumn(table, m, n);
        }
        return table;
    }

    private static void dependRow(int[][] table, int m, int n) {
        int row = thrown.between(0, m - 1);
        int[] sum = new int[n];
        for (int i = 0; i < m; i++) {
            int times = i == row ? 0 : thrown.between(-1, 1);
            for (int j = 0; j < n; j++) {
                sum[j] += times * table[i][j];
            }
        }
        table[row] = sum;
    }

    private static void dependColumn(int[][] table, int m, int n) {
        int column = thrown.between(0, n - 1);
        int[] times = new int[n];
        for (int j = 0; j < n; j++) {
            times[j] = j == column ? 0 : thrown.between(-1, 1);
        }
        for (int i = 0; i < m; i++) {
            int sum = 0;
            for (int j = 0; j < n; j++) {
                sum += times[j] * table[i][j];
            }
            table[i][column] = sum;
        }
    }

    /** Columns that are combinations of the given ones where that stays in -12 .. 12, and sometimes all 0. */
    private static int[][] relatedTable(int[][] table, int m, int n) {
        int[][] related = new int[m][n];
        for (int j = 0; j < n; j++) {
            int a = thrown.between(0, n - 1);
            int b = thrown.between(0, n - 1);
            int times = thrown.between(-2, 2);
            boolean fits = true;
            for (int i = 0; i < m; i++) {
                related[i][j] = table[i][a] + times * table[i][b];
                fits &= related[i][j] >= -12 && related[i][j] <= 12;
            }
            for (int i = 0; i < m && !fits; i++) {
                related[i][j] = table[i][j];
            }
        }
        return related;
    }

    private static int[] madeTarget(int[][] table, int m, int n) {
        int[] target = new int[m];
        int kind = thrown.between(0, 3);
        for (int j = 0; j < n; j++) {
            int times = thrown.between(-4, 4);
            for (int i = 0; i < m; i++) {
                target[i] += times * table[i][j];
            }
        }
        int shrink = kind == 1 ? thrown.between(2, 12) : 1;
        for (int i = 0; i < m; i++) {
            target[i] = kind == 3 ? thrown.between(-200, 200) : target[i] / shrink;
        }
        if (kind == 2) {
            target[thrown.between(0, m - 1)] += thrown.between(-3, 3);
        }
        return target;
    }
}
