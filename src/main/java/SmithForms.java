public final class SmithForms {
    private static final int SIDE = 4;
    private static final int TABLE_CELLS = 16;
    private static final int BOTH_TABLES_CELLS = 32;

    private static final int ENTRY_LIMIT = 12;
    private static final int TARGET_LIMIT = 200;
    private static final int GREATEST_MULTIPLE = 100;
    private static final int GREATEST_MODULUS = 6;
    private static final int BENT_BASE = 32;

    // A set of rows or columns is a number with one bit for each member. Bit 4
    // of a set of columns stands for the goal, so the sets from WITH_GOAL on are
    // those that hold it.
    private static final int GOAL = 4;
    private static final int ROW_SETS = 16;
    private static final int COLUMN_SETS = 32;
    private static final int WITHOUT_GOAL = 0;
    private static final int WITH_GOAL = 16;
    private static final int SETS_EITHER_WAY = 16;
    private static final int MINORS = 512;

    // Euclid's steps on the minors here stay below fifty.
    private static final int EUCLID_BOUND = 1000;

    private final int rowCount;
    private final int columnCount;

    // Always four rows of four for each table: the cells outside the object's
    // rows and columns stay 0, and so do all minors with such a cell's row or
    // column, which leaves the greatest common divisors as they are.
    private final int[] cells = new int[BOTH_TABLES_CELLS];
    private final int[] target = new int[SIDE];

    // Room for one question's work; nothing in it outlives the question.
    private final int[] goal = new int[SIDE];
    private final long[] minors = new long[MINORS];

    public SmithForms(int rows, int columns) {
        rowCount = clampedSide(rows);
        columnCount = clampedSide(columns);
    }

    public int rows() {
        return rowCount;
    }

    public int columns() {
        return columnCount;
    }

    public int set(int t, int at, int value) {
        if (!isTable(t)) {
            return -1;
        }
        if (at < 0 || !isRow(at / SIDE) || !isColumn(at % SIDE)) {
            return -2;
        }
        if (!isEntry(value)) {
            return -3;
        }
        cells[t * TABLE_CELLS + at] = value;
        return 0;
    }

    public int fill(int t, int row, int start, int bent) {
        if (!isTable(t)) {
            return -1;
        }
        if (!isRow(row)) {
            return -2;
        }
        if (bent < 0) {
            return -3;
        }
        int step = bent / BENT_BASE - ENTRY_LIMIT;
        int bend = bent % BENT_BASE - ENTRY_LIMIT;
        if (!isEntry(start) || !isEntry(step) || !isEntry(bend)) {
            return -3;
        }
        // All are looked at before the first is set: a refused call changes nothing.
        for (int column = 0; column < columnCount; column++) {
            if (!isEntry(start + column * step + column * column * bend)) {
                return -3;
            }
        }
        for (int column = 0; column < columnCount; column++) {
            cells[cellAt(t, row, column)] = start + column * step + column * column * bend;
        }
        return 0;
    }

    public int aim(int row, int value) {
        if (!isRow(row)) {
            return -1;
        }
        if (value < -TARGET_LIMIT || value > TARGET_LIMIT) {
            return -2;
        }
        target[row] = value;
        return 0;
    }

    public int mirror(int t) {
        if (!isTable(t)) {
            return -1;
        }
        for (int row = 0; row < rowCount; row++) {
            for (int column = 0; column < columnCount; column++) {
                int source = cellAt(1 - t, row, columnCount - 1 - column);
                cells[cellAt(t, row, column)] = cells[source];
            }
        }
        return 0;
    }

    public int get(int t, int row, int column) {
        if (!isTable(t) || !isRow(row) || !isColumn(column)) {
            return 0;
        }
        return cells[cellAt(t, row, column)];
    }

    public int rank(int t) {
        if (!isTable(t)) {
            return -1;
        }
        findMinors(t);
        return foundRank();
    }

    public long divisor(int t, int k) {
        if (!isTable(t)) {
            return -1;
        }
        if (k < 0 || k > SIDE) {
            return -2;
        }
        findMinors(t);
        return foundDivisor(k, WITHOUT_GOAL);
    }

    public long factor(int t, int k) {
        if (!isTable(t)) {
            return -1;
        }
        if (k < 1 || k > SIDE) {
            return -2;
        }
        findMinors(t);
        long before = foundDivisor(k - 1, WITHOUT_GOAL);
        if (before == 0) {
            return 0;
        }
        return foundDivisor(k, WITHOUT_GOAL) / before;
    }

    public int reaches(int t) {
        if (!isTable(t)) {
            return -1;
        }
        aimGoalAtTarget();
        return leastMultipleOfGoal(t) == 1 ? 1 : 0;
    }

    public int multiple(int t) {
        if (!isTable(t)) {
            return -1;
        }
        aimGoalAtTarget();
        long least = leastMultipleOfGoal(t);
        return least > GREATEST_MULTIPLE ? 0 : (int) least;
    }

    public int solutions(int t, int p) {
        if (!isTable(t)) {
            return -1;
        }
        if (p < 1 || p > GREATEST_MODULUS) {
            return -2;
        }
        int candidates = 1;
        for (int column = 0; column < columnCount; column++) {
            candidates *= p;
        }
        int count = 0;
        for (int candidate = 0; candidate < candidates; candidate++) {
            if (isSolution(t, p, candidate)) {
                count++;
            }
        }
        return count;
    }

    public int within(int t) {
        if (!isTable(t)) {
            return -1;
        }
        // The columns themselves are enough: sums and multiples of combinations
        // are combinations.
        for (int column = 0; column < columnCount; column++) {
            aimGoalAtColumn(t, column);
            if (leastMultipleOfGoal(1 - t) != 1) {
                return 0;
            }
        }
        return 1;
    }

    public long classes(int t) {
        if (!isTable(t)) {
            return -1;
        }
        // Divisor m is 0 by itself if the rank is less than m.
        findMinors(t);
        return foundDivisor(rowCount, WITHOUT_GOAL);
    }

    public long determinant(int t) {
        if (!isTable(t) || rowCount != columnCount) {
            return 0;
        }
        findMinors(t);
        int all = (1 << rowCount) - 1;
        return minors[all * COLUMN_SETS + all];
    }

    private static int clampedSide(int side) {
        if (side < 1) {
            return 1;
        }
        return side > SIDE ? SIDE : side;
    }

    private static boolean isTable(int t) {
        return t == 0 || t == 1;
    }

    private boolean isRow(int row) {
        return row >= 0 && row < rowCount;
    }

    private boolean isColumn(int column) {
        return column >= 0 && column < columnCount;
    }

    private static boolean isEntry(int value) {
        return value >= -ENTRY_LIMIT && value <= ENTRY_LIMIT;
    }

    private static int cellAt(int t, int row, int column) {
        return t * TABLE_CELLS + row * SIDE + column;
    }

    private void aimGoalAtTarget() {
        for (int row = 0; row < SIDE; row++) {
            goal[row] = target[row];
        }
    }

    private void aimGoalAtColumn(int t, int column) {
        for (int row = 0; row < SIDE; row++) {
            goal[row] = cells[cellAt(t, row, column)];
        }
    }

    // The least k >= 1 such that k times the goal is a combination of the
    // table's columns, 0 if there is none. With r the rank, there is one just if
    // the goal as one more column leaves the rank at r; and k times the goal is a
    // combination just if it also leaves divisor r as it is, which is to say that
    // divisor r divides k times every minor of size r that the goal is part of.
    private long leastMultipleOfGoal(int t) {
        findMinors(t);
        int rank = foundRank();
        if (foundDivisor(rank + 1, WITH_GOAL) != 0) {
            return 0;
        }
        long divisor = foundDivisor(rank, WITHOUT_GOAL);
        long goalDivisor = foundDivisor(rank, WITH_GOAL);
        long common = commonDivisor(divisor, goalDivisor);
        return common == 0 ? 0 : divisor / common;
    }

    // Finds all minors of the table with the goal as one more column. Every
    // minor is made of smaller ones, which sets of rows in rising order have
    // ready. Where the two sets differ in size, the place stays 0.
    private void findMinors(int t) {
        minors[0] = 1;
        for (int rowSet = 1; rowSet < ROW_SETS; rowSet++) {
            for (int columnSet = 1; columnSet < COLUMN_SETS; columnSet++) {
                if (sizeOf(rowSet) == sizeOf(columnSet)) {
                    minors[rowSet * COLUMN_SETS + columnSet] = expandedMinor(t, rowSet, columnSet);
                }
            }
        }
    }

    private long expandedMinor(int t, int rowSet, int columnSet) {
        int row = leastOf(rowSet);
        int otherRows = rowSet ^ (1 << row);
        long sum = 0;
        long sign = 1;
        for (int column = 0; column <= GOAL; column++) {
            int bit = 1 << column;
            if ((columnSet & bit) != 0) {
                int entry = column == GOAL ? goal[row] : cells[cellAt(t, row, column)];
                sum += sign * entry * minors[otherRows * COLUMN_SETS + (columnSet ^ bit)];
                sign = -sign;
            }
        }
        return sum;
    }

    private int foundRank() {
        int rank = 0;
        for (int k = 1; k <= SIDE; k++) {
            if (foundDivisor(k, WITHOUT_GOAL) != 0) {
                rank = k;
            }
        }
        return rank;
    }

    // The greatest common divisor of the found minors of size k, either of those
    // without the goal or of those with it; 0 if there are none.
    private long foundDivisor(int k, int firstColumnSet) {
        long divisor = 0;
        for (int rowSet = 0; rowSet < ROW_SETS; rowSet++) {
            if (sizeOf(rowSet) == k) {
                for (int i = 0; i < SETS_EITHER_WAY; i++) {
                    divisor = commonDivisor(divisor, minors[rowSet * COLUMN_SETS + firstColumnSet + i]);
                }
            }
        }
        return divisor;
    }

    private boolean isSolution(int t, int p, int candidate) {
        for (int row = 0; row < rowCount; row++) {
            int sum = -target[row];
            int digits = candidate;
            for (int column = 0; column < columnCount; column++) {
                sum += cells[cellAt(t, row, column)] * (digits % p);
                digits /= p;
            }
            if (sum % p != 0) {
                return false;
            }
        }
        return true;
    }

    private static int sizeOf(int set) {
        int size = 0;
        for (int member = 0; member <= GOAL; member++) {
            size += (set >> member) & 1;
        }
        return size;
    }

    private static int leastOf(int rowSet) {
        for (int row = 0; row < SIDE; row++) {
            if (((rowSet >> row) & 1) == 1) {
                return row;
            }
        }
        return 0;
    }

    private static long commonDivisor(long a, long b) {
        long greater = a < 0 ? -a : a;
        long smaller = b < 0 ? -b : b;
        for (int step = 0; step < EUCLID_BOUND && smaller != 0; step++) {
            long rest = greater % smaller;
            greater = smaller;
            smaller = rest;
        }
        return greater;
    }
}
