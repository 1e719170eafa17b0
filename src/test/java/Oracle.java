/**
 * Answers to the questions on a table, reckoned another way than the class does: by elimination with columns and
 * rows where the class goes by minors, by the sum over all orders where the class expands by rows.
 */
final class Oracle {
    private Oracle() {
    }

    static int rank(int[][] table) {
        int rank = 0;
        for (long factor : smithFactors(table)) {
            rank += factor == 0 ? 0 : 1;
        }
        return rank;
    }

    static long factor(int[][] table, int k) {
        long[] factors = smithFactors(table);
        return k <= factors.length ? factors[k - 1] : 0;
    }

    static long divisor(int[][] table, int k) {
        long product = 1;
        for (int i = 1; i <= k; i++) {
            product *= factor(table, i);
        }
        return product;
    }

    static int multiple(int[][] table, int[] target) {
        long[][] stairs = stairs(table);
        for (int k = 1; k <= 100; k++) {
            if (reached(stairs, target, k)) {
                return k;
            }
        }
        return 0;
    }

    static int reaches(int[][] table, int[] target) {
        return reached(stairs(table), target, 1) ? 1 : 0;
    }

    static int within(int[][] table, int[][] other) {
        long[][] stairs = stairs(other);
        for (int j = 0; j < table[0].length; j++) {
            int[] column = new int[table.length];
            for (int i = 0; i < table.length; i++) {
                column[i] = table[i][j];
            }
            if (!reached(stairs, column, 1)) {
                return 0;
            }
        }
        return 1;
    }

    static long classes(int[][] table) {
        return rank(table) == table.length ? divisor(table, table.length) : 0;
    }

    static long determinant(int[][] table) {
        return table.length == table[0].length ? sumOverOrders(table, 0, 0, 1) : 0;
    }

    static int solutions(int[][] table, int[] target, int p) {
        return countSolutions(table, target, p, 0, new int[table[0].length]);
    }

    /** The factors by elimination: the least number is driven into the corner until it divides all the rest. */
    private static long[] smithFactors(int[][] table) {
        int m = table.length;
        int n = table[0].length;
        long[][] a = new long[m][n];
        for (int i = 0; i < m; i++) {
            for (int j = 0; j < n; j++) {
                a[i][j] = table[i][j];
            }
        }
        long[] factors = new long[Math.min(m, n)];
        for (int k = 0; k < factors.length; k++) {
            while (!cornerDone(a, k)) {
                bringLeastToCorner(a, k);
                reduceByCorner(a, k);
            }
            factors[k] = Math.abs(a[k][k]);
        }
        return factors;
    }

    private static boolean cornerDone(long[][] a, int k) {
        for (int i = k; i < a.length; i++) {
            for (int j = k; j < a[0].length; j++) {
                boolean divided = a[k][k] == 0 ? a[i][j] == 0 : a[i][j] % a[k][k] == 0;
                if (!divided) {
                    return false;
                }
            }
        }
        return edgesClear(a, k);
    }

    private static void bringLeastToCorner(long[][] a, int k) {
        int row = k;
        int column = k;
        for (int i = k; i < a.length; i++) {
            for (int j = k; j < a[0].length; j++) {
                if (a[i][j] != 0 && (a[row][column] == 0 || Math.abs(a[i][j]) < Math.abs(a[row][column]))) {
                    row = i;
                    column = j;
                }
            }
        }
        long[] kept = a[k];
        a[k] = a[row];
        a[row] = kept;
        for (long[] line : a) {
            long number = line[k];
            line[k] = line[column];
            line[column] = number;
        }
    }

    private static void reduceByCorner(long[][] a, int k) {
        int m = a.length;
        int n = a[0].length;
        for (int i = k + 1; i < m; i++) {
            addRow(a, i, k, -(a[i][k] / a[k][k]));
        }
        for (int j = k + 1; j < n; j++) {
            long times = a[k][j] / a[k][k];
            for (int i = 0; i < m; i++) {
                a[i][j] -= times * a[i][k];
            }
        }
        // Only with both edges clear: otherwise the corner could grow, and the elimination not end.
        for (int i = k + 1; i < m && edgesClear(a, k); i++) {
            for (int j = k + 1; j < n; j++) {
                if (a[i][j] % a[k][k] != 0) {
                    addRow(a, k, i, 1);
                    return;
                }
            }
        }
    }

    private static boolean edgesClear(long[][] a, int k) {
        for (int i = k + 1; i < a.length; i++) {
            if (a[i][k] != 0) {
                return false;
            }
        }
        for (int j = k + 1; j < a[0].length; j++) {
            if (a[k][j] != 0) {
                return false;
            }
        }
        return true;
    }

    private static void addRow(long[][] a, int to, int from, long times) {
        for (int j = 0; j < a[0].length; j++) {
            a[to][j] += times * a[from][j];
        }
    }

    private static long sumOverOrders(int[][] table, int row, int used, int sign) {
        if (row == table.length) {
            return sign;
        }
        long sum = 0;
        for (int j = 0; j < table.length; j++) {
            if ((used >> j & 1) == 0) {
                int passed = Integer.bitCount(used >> j);
                sum += table[row][j] * sumOverOrders(table, row + 1, used | 1 << j, passed % 2 == 0 ? sign : -sign);
            }
        }
        return sum;
    }

    /** The same combinations from columns in stairs: each begins in a lower row than the one before it. */
    private static long[][] stairs(int[][] table) {
        int m = table.length;
        int n = table[0].length;
        long[][] columns = new long[n][m];
        for (int i = 0; i < m; i++) {
            for (int j = 0; j < n; j++) {
                columns[j][i] = table[i][j];
            }
        }
        int stair = 0;
        for (int i = 0; i < m && stair < n; i++) {
            for (int j = stair + 1; j < n; j++) {
                while (columns[j][i] != 0) {
                    long times = columns[stair][i] / columns[j][i];
                    for (int h = 0; h < m; h++) {
                        columns[stair][h] -= times * columns[j][h];
                    }
                    long[] kept = columns[stair];
                    columns[stair] = columns[j];
                    columns[j] = kept;
                }
            }
            stair += columns[stair][i] != 0 ? 1 : 0;
        }
        return columns;
    }

    private static boolean reached(long[][] stairs, int[] target, int times) {
        long[] rest = new long[target.length];
        for (int i = 0; i < rest.length; i++) {
            rest[i] = (long) times * target[i];
        }
        for (long[] column : stairs) {
            int begin = 0;
            while (begin < column.length && column[begin] == 0) {
                begin++;
            }
            if (begin < column.length) {
                long taken = rest[begin] / column[begin];
                for (int i = 0; i < rest.length; i++) {
                    rest[i] -= taken * column[i];
                }
            }
        }
        for (long number : rest) {
            if (number != 0) {
                return false;
            }
        }
        return true;
    }

    private static int countSolutions(int[][] table, int[] target, int p, int column, int[] chosen) {
        if (column == chosen.length) {
            for (int i = 0; i < table.length; i++) {
                int sum = 0;
                for (int j = 0; j < chosen.length; j++) {
                    sum += table[i][j] * chosen[j];
                }
                if (Math.floorMod(sum - target[i], p) != 0) {
                    return 0;
                }
            }
            return 1;
        }
        int count = 0;
        for (int value = 0; value < p; value++) {
            chosen[column] = value;
            count += countSolutions(table, target, p, column + 1, chosen);
        }
        return count;
    }
}
