/**
 * Promises 9 to 17 on some thousands of tables, against answers reckoned another way: by elimination with
 * columns and rows where the class goes by minors, by the sum over all orders where the class expands by rows.
 */
public final class OracleTest {
    private static final int ROUNDS = 6000;
    private static final Checks checks = new Checks();

    // A fixed row of numbers that look thrown, so that every run of the test is the same.
    private static long state = 20240611L;

    private static int thrown(int low, int high) {
        state = state * 6364136223846793005L + 1442695040888963407L;
        return low + (int) ((state >>> 33) % (high - low + 1));
    }

    public static void main(String[] args) {
        for (int round = 0; round < ROUNDS; round++) {
            oneRound(round);
        }
        checks.end();
    }

    private static void oneRound(int round) {
        int m = thrown(1, 4);
        int n = thrown(1, 4);
        SmithForms x = new SmithForms(m, n);
        int[][] first = madeTable(m, n);
        int[][] second = thrown(0, 2) == 0 ? madeTable(m, n) : relatedTable(first, m, n);
        int[] target = madeTarget(first, m, n);
        for (int i = 0; i < m; i++) {
            x.aim(i, target[i]);
            for (int j = 0; j < n; j++) {
                x.set(0, 4 * i + j, first[i][j]);
                x.set(1, 4 * i + j, second[i][j]);
            }
        }
        compare("round " + round + ", ", x, 0, first, second, target);
        compare("round " + round + ", ", x, 1, second, first, target);
    }

    private static void compare(String where, SmithForms x, int t, int[][] table, int[][] other, int[] target) {
        int m = table.length;
        int n = table[0].length;
        long[] factors = smithFactors(table);
        int rank = 0;
        long product = 1;
        checks.due(where + "divisor(" + t + ", 0)", x.divisor(t, 0), 1);
        for (int k = 1; k <= 4; k++) {
            long factor = k <= factors.length ? factors[k - 1] : 0;
            product *= factor;
            rank += factor == 0 ? 0 : 1;
            checks.due(where + "factor(" + t + ", " + k + ")", x.factor(t, k), factor);
            checks.due(where + "divisor(" + t + ", " + k + ")", x.divisor(t, k), product);
        }
        checks.due(where + "rank(" + t + ")", x.rank(t), rank);
        checks.due(where + "determinant(" + t + ")", x.determinant(t), m == n ? sumOverOrders(table, 0, 0, 1) : 0);
        checks.due(where + "classes(" + t + ")", x.classes(t), rank == m ? productOf(factors, m) : 0);
        long[][] stairs = stairs(table);
        checks.due(where + "reaches(" + t + ")", x.reaches(t), reached(stairs, target, 1) ? 1 : 0);
        int least = 0;
        for (int k = 100; k >= 1; k--) {
            least = reached(stairs, target, k) ? k : least;
        }
        checks.due(where + "multiple(" + t + ")", x.multiple(t), least);
        boolean within = true;
        long[][] otherStairs = stairs(other);
        for (int j = 0; j < n; j++) {
            int[] column = new int[m];
            for (int i = 0; i < m; i++) {
                column[i] = table[i][j];
            }
            within &= reached(otherStairs, column, 1);
        }
        checks.due(where + "within(" + t + ")", x.within(t), within ? 1 : 0);
        for (int p = 1; p <= 6; p++) {
            checks.due(where + "solutions(" + t + ", " + p + ")", x.solutions(t, p),
                    countSolutions(table, target, p, 0, new int[n]));
        }
    }

    // ---- what is asked about

    private static int[][] madeTable(int m, int n) {
        int kind = thrown(0, 4);
        int[][] table = new int[m][n];
        int scale = kind == 1 ? thrown(1, 6) : 1;
        int reach = kind == 0 ? 12 : kind == 1 ? 12 / scale : thrown(1, 3);
        for (int i = 0; i < m; i++) {
            for (int j = 0; j < n; j++) {
                table[i][j] = scale * thrown(-reach, reach);
                if (kind == 2 && thrown(0, 1) == 0) {
                    table[i][j] = 0;
                }
            }
        }
        if (kind == 3) {
            dependRow(table, m, n);
        }
        if (kind == 4) {
            dependColumn(table, m, n);
        }
        return table;
    }

    private static void dependRow(int[][] table, int m, int n) {
        int row = thrown(0, m - 1);
        int[] sum = new int[n];
        for (int i = 0; i < m; i++) {
            int times = i == row ? 0 : thrown(-1, 1);
            for (int j = 0; j < n; j++) {
                sum[j] += times * table[i][j];
            }
        }
        table[row] = sum;
    }

    private static void dependColumn(int[][] table, int m, int n) {
        int column = thrown(0, n - 1);
        int[] times = new int[n];
        for (int j = 0; j < n; j++) {
            times[j] = j == column ? 0 : thrown(-1, 1);
        }
        for (int i = 0; i < m; i++) {
            int sum = 0;
            for (int j = 0; j < n; j++) {
                sum += times[j] * table[i][j];
            }
            table[i][column] = sum;
        }
    }

    /** Columns that are combinations of the given ones where that stays in -12 .. 12, and sometimes all 0. */
    private static int[][] relatedTable(int[][] table, int m, int n) {
        int[][] related = new int[m][n];
        for (int j = 0; j < n; j++) {
            int a = thrown(0, n - 1);
            int b = thrown(0, n - 1);
            int times = thrown(-2, 2);
            boolean fits = true;
            for (int i = 0; i < m; i++) {
                related[i][j] = table[i][a] + times * table[i][b];
                fits &= related[i][j] >= -12 && related[i][j] <= 12;
            }
            for (int i = 0; i < m && !fits; i++) {
                related[i][j] = table[i][j];
            }
        }
        return related;
    }

    private static int[] madeTarget(int[][] table, int m, int n) {
        int[] target = new int[m];
        int kind = thrown(0, 3);
        for (int j = 0; j < n; j++) {
            int times = thrown(-4, 4);
            for (int i = 0; i < m; i++) {
                target[i] += times * table[i][j];
            }
        }
        int shrink = kind == 1 ? thrown(2, 12) : 1;
        for (int i = 0; i < m; i++) {
            target[i] = kind == 3 ? thrown(-200, 200) : target[i] / shrink;
        }
        if (kind == 2) {
            target[thrown(0, m - 1)] += thrown(-3, 3);
        }
        return target;
    }

    // ---- the answers, reckoned another way

    /** The factors by elimination: the least number is driven into the corner until it divides all the rest. */
    private static long[] smithFactors(int[][] table) {
        int m = table.length;
        int n = table[0].length;
        long[][] a = new long[m][n];
        for (int i = 0; i < m; i++) {
            for (int j = 0; j < n; j++) {
                a[i][j] = table[i][j];
            }
        }
        long[] factors = new long[Math.min(m, n)];
        for (int k = 0; k < factors.length; k++) {
            while (!cornerDone(a, k)) {
                bringLeastToCorner(a, k);
                reduceByCorner(a, k);
            }
            factors[k] = Math.abs(a[k][k]);
        }
        return factors;
    }

    private static boolean cornerDone(long[][] a, int k) {
        for (int i = k; i < a.length; i++) {
            for (int j = k; j < a[0].length; j++) {
                boolean divided = a[k][k] == 0 ? a[i][j] == 0 : a[i][j] % a[k][k] == 0;
                if (!divided) {
                    return false;
                }
            }
        }
        return edgesClear(a, k);
    }

    private static void bringLeastToCorner(long[][] a, int k) {
        int row = k;
        int column = k;
        for (int i = k; i < a.length; i++) {
            for (int j = k; j < a[0].length; j++) {
                if (a[i][j] != 0 && (a[row][column] == 0 || Math.abs(a[i][j]) < Math.abs(a[row][column]))) {
                    row = i;
                    column = j;
                }
            }
        }
        long[] kept = a[k];
        a[k] = a[row];
        a[row] = kept;
        for (long[] line : a) {
            long number = line[k];
            line[k] = line[column];
            line[column] = number;
        }
    }

    private static void reduceByCorner(long[][] a, int k) {
        int m = a.length;
        int n = a[0].length;
        for (int i = k + 1; i < m; i++) {
            addRow(a, i, k, -(a[i][k] / a[k][k]));
        }
        for (int j = k + 1; j < n; j++) {
            long times = a[k][j] / a[k][k];
            for (int i = 0; i < m; i++) {
                a[i][j] -= times * a[i][k];
            }
        }
        // Only with both edges clear: otherwise the corner could grow, and the elimination not end.
        for (int i = k + 1; i < m && edgesClear(a, k); i++) {
            for (int j = k + 1; j < n; j++) {
                if (a[i][j] % a[k][k] != 0) {
                    addRow(a, k, i, 1);
                    return;
                }
            }
        }
    }

    private static boolean edgesClear(long[][] a, int k) {
        for (int i = k + 1; i < a.length; i++) {
            if (a[i][k] != 0) {
                return false;
            }
        }
        for (int j = k + 1; j < a[0].length; j++) {
            if (a[k][j] != 0) {
                return false;
            }
        }
        return true;
    }

    private static void addRow(long[][] a, int to, int from, long times) {
        for (int j = 0; j < a[0].length; j++) {
            a[to][j] += times * a[from][j];
        }
    }

    private static long productOf(long[] factors, int count) {
        long product = 1;
        for (int k = 0; k < count; k++) {
            product *= factors[k];
        }
        return product;
    }

    private static long sumOverOrders(int[][] table, int row, int used, int sign) {
        if (row == table.length) {
            return sign;
        }
        long sum = 0;
        for (int j = 0; j < table.length; j++) {
            if ((used >> j & 1) == 0) {
                int passed = Integer.bitCount(used >> j);
                sum += table[row][j] * sumOverOrders(table, row + 1, used | 1 << j, passed % 2 == 0 ? sign : -sign);
            }
        }
        return sum;
    }

    /** The same combinations from columns in stairs: each begins in a lower row than the one before it. */
    private static long[][] stairs(int[][] table) {
        int m = table.length;
        int n = table[0].length;
        long[][] columns = new long[n][m];
        for (int i = 0; i < m; i++) {
            for (int j = 0; j < n; j++) {
                columns[j][i] = table[i][j];
            }
        }
        int stair = 0;
        for (int i = 0; i < m && stair < n; i++) {
            for (int j = stair + 1; j < n; j++) {
                while (columns[j][i] != 0) {
                    long times = columns[stair][i] / columns[j][i];
                    for (int h = 0; h < m; h++) {
                        columns[stair][h] -= times * columns[j][h];
                    }
                    long[] kept = columns[stair];
                    columns[stair] = columns[j];
                    columns[j] = kept;
                }
            }
            stair += columns[stair][i] != 0 ? 1 : 0;
        }
        return columns;
    }

    private static boolean reached(long[][] stairs, int[] target, int times) {
        long[] rest = new long[target.length];
        for (int i = 0; i < rest.length; i++) {
            rest[i] = (long) times * target[i];
        }
        for (long[] column : stairs) {
            int begin = 0;
            while (begin < column.length && column[begin] == 0) {
                begin++;
            }
            if (begin < column.length) {
                long taken = rest[begin] / column[begin];
                for (int i = 0; i < rest.length; i++) {
                    rest[i] -= taken * column[i];
                }
            }
        }
        for (long number : rest) {
            if (number != 0) {
                return false;
            }
        }
        return true;
    }

    private static int countSolutions(int[][] table, int[] target, int p, int column, int[] chosen) {
        if (column == chosen.length) {
            for (int i = 0; i < table.length; i++) {
                int sum = 0;
                for (int j = 0; j < chosen.length; j++) {
                    sum += table[i][j] * chosen[j];
                }
                if (Math.floorMod(sum - target[i], p) != 0) {
                    return 0;
                }
            }
            return 1;
        }
        int count = 0;
        for (int value = 0; value < p; value++) {
            chosen[column] = value;
            count += countSolutions(table, target, p, column + 1, chosen);
        }
        return count;
    }
}
