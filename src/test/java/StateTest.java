import java.util.HashMap;
import java.util.Map;

/** Promises 1 to 8, sentence by sentence: making an object, changing it, and reading its numbers. */
public final class StateTest {
    private static final int LEAST = Integer.MIN_VALUE;
    private static final int GREATEST = Integer.MAX_VALUE;

    /** Rows and columns, good and not good; four times the great ones wraps around to a good place. */
    private static final int[] PLACES = {LEAST, -(1 << 30), -5, -4, -1, 0, 1, 2, 3, 4, 5, 8, 16, 1 << 28, 1 << 30,
        GREATEST};
    private static final int[] WRONG_ENTRIES = {LEAST, -200, -25, -14, -13, 13, 14, 25, 200, 256, 1 << 30, GREATEST};
    private static final int[] NOTHING = new int[32];
    private static final int LEVEL = Tables.bent(0, 0);

    private static final Checks checks = new Checks();
    private static final Sentences doc = new Sentences(checks);

    public static void main(String[] args) {
        promises1To3();
        promise4();
        promise5();
        promise6();
        promise7();
        promise8();
        for (int number = 1; number <= 8; number++) {
            doc.nothingLeftOf("Promise " + number);
        }
        checks.end();
    }

    // ---- promises 1 to 3: a new object, rows, columns

    private static void promises1To3() {
        doc.test("Promise 1", "rows is m: below 1 becomes 1", StateTest::rowsBelow1);
        doc.test("Promise 1", "rows is m: below 1 becomes 1, above 4 becomes 4.", StateTest::rowsAbove4);
        doc.test("Promise 1", "columns is n: below 1 becomes 1", StateTest::columnsBelow1);
        doc.test("Promise 1", "columns is n: below 1 becomes 1, above 4 becomes 4.", StateTest::columnsAbove4);
        doc.test("Promise 2", "m.", StateTest::rowsAnswersM);
        doc.test("Promise 3", "n.", StateTest::columnsAnswersN);
    }

    private static void rowsBelow1() {
        for (int rows : new int[] {0, -1, -2, -3, -4, -5, -100, LEAST + 1, LEAST}) {
            sizeDue(rows, 3, 1, 3);
        }
        sizeDue(1, 3, 1, 3);
        sizeDue(2, 3, 2, 3);
    }

    private static void rowsAbove4() {
        for (int rows : new int[] {5, 6, 7, 8, 16, 100, 256, GREATEST - 1, GREATEST}) {
            sizeDue(rows, 2, 4, 2);
        }
        sizeDue(4, 2, 4, 2);
        sizeDue(3, 2, 3, 2);
    }

    private static void columnsBelow1() {
        for (int columns : new int[] {0, -1, -2, -3, -4, -5, -100, LEAST + 1, LEAST}) {
            sizeDue(3, columns, 3, 1);
        }
        sizeDue(3, 1, 3, 1);
        sizeDue(3, 2, 3, 2);
    }

    private static void columnsAbove4() {
        for (int columns : new int[] {5, 6, 7, 8, 16, 100, 256, GREATEST - 1, GREATEST}) {
            sizeDue(2, columns, 2, 4);
        }
        sizeDue(2, 4, 2, 4);
        sizeDue(2, 3, 2, 3);
        sizeDue(0, GREATEST, 1, 4);
        sizeDue(5, LEAST, 4, 1);
    }

    /** The size shows in rows and columns, and in which cells take a number. */
    private static void sizeDue(int rows, int columns, int m, int n) {
        SmithForms x = new SmithForms(rows, columns);
        String made = "new(" + rows + ", " + columns + ").";
        checks.due(made + "rows()", x.rows(), m);
        checks.due(made + "columns()", x.columns(), n);
        for (int at = 0; at < 16; at++) {
            checks.due(made + "set(0, " + at + ", 1)", x.set(0, at, 1), at / 4 < m && at % 4 < n ? 0 : -2);
        }
    }

    private static void rowsAnswersM() {
        for (int m = 1; m <= 4; m++) {
            for (int n = 1; n <= 4; n++) {
                checks.due("new(" + m + ", " + n + ").rows()", new SmithForms(m, n).rows(), m);
            }
            SmithForms changed = changedEverywhere(m, 3);
            checks.due("rows() after changes", changed.rows(), m);
        }
    }

    private static void columnsAnswersN() {
        for (int n = 1; n <= 4; n++) {
            for (int m = 1; m <= 4; m++) {
                checks.due("new(" + m + ", " + n + ").columns()", new SmithForms(m, n).columns(), n);
            }
            SmithForms changed = changedEverywhere(3, n);
            checks.due("columns() after changes", changed.columns(), n);
        }
    }

    private static SmithForms changedEverywhere(int m, int n) {
        SmithForms x = new SmithForms(m, n);
        Tables.putEverywhere(x, m, n);
        x.mirror(0);
        x.fill(1, m - 1, 5, LEVEL);
        x.aim(m - 1, 200);
        return x;
    }

    // ---- promise 4: set

    private static void promise4() {
        doc.test("Promise 4", "Sets a number of a table.", StateTest::setPutsTheNumber);
        doc.test("Promise 4", "-1 if t is not good", StateTest::setRefusesTables);
        doc.test("Promise 4", "-2 if row or column is not good", StateTest::setRefusesRowsAndColumns);
        doc.test("Promise 4", "(at is 4 * row + column, and not good if it is not such a number for a good row and"
                + " column)", StateTest::setKnowsTheGoodPlaces);
        doc.test("Promise 4", "-3 if value is not in -12 .. 12", StateTest::setRefusesValues);
        doc.test("Promise 4", "otherwise 0.", StateTest::setTakesAllElse);
    }

    private static void setPutsTheNumber() {
        for (int m = 1; m <= 4; m++) {
            for (int n = 1; n <= 4; n++) {
                for (int t = 0; t <= 1; t++) {
                    for (int cell = 0; cell < m * n; cell++) {
                        setEveryNumber(m, n, t, 4 * (cell / n) + cell % n);
                    }
                }
            }
        }
    }

    private static void setEveryNumber(int m, int n, int t, int at) {
        SmithForms x = new SmithForms(m, n);
        int[] want = Tables.putEverywhere(x, m, n);
        for (int value = -12; value <= 12; value++) {
            x.set(t, at, value);
            want[16 * t + at] = value;
            checks.due("get after set(" + t + ", " + at + ", " + value + ")", x.get(t, at / 4, at % 4), value);
        }
        Tables.cellsDue(checks, "set(" + t + ", " + at + ", 12) changes that cell alone", x, want);
    }

    private static void setRefusesTables() {
        for (int t : Tables.WRONG_TABLES) {
            setRefused(4, 4, t, 0, 5, -1);
            setRefused(4, 4, t, 15, 5, -1);
            setRefused(1, 1, t, 0, -12, -1);
        }
    }

    private static void setRefusesRowsAndColumns() {
        for (int m = 1; m <= 4; m++) {
            for (int n = 1; n <= 4; n++) {
                for (int row = m; row <= 5; row++) {
                    setRefused(m, n, 0, 4 * row, 5, -2);
                    setRefused(m, n, 1, 4 * row + n - 1, 5, -2);
                }
                for (int column = n; column < 4; column++) {
                    setRefused(m, n, 0, column, 5, -2);
                    setRefused(m, n, 1, 4 * (m - 1) + column, 5, -2);
                }
            }
        }
    }

    private static void setKnowsTheGoodPlaces() {
        for (int m = 1; m <= 4; m++) {
            for (int n = 1; n <= 4; n++) {
                for (int at = -40; at <= 40; at++) {
                    placeDue(m, n, at);
                }
                for (int at : new int[] {LEAST, LEAST + 1, -(1 << 30), 1 << 28, 1 << 30, GREATEST - 15, GREATEST}) {
                    placeDue(m, n, at);
                }
            }
        }
    }

    private static void placeDue(int m, int n, int at) {
        boolean good = false;
        for (int row = 0; row < m; row++) {
            for (int column = 0; column < n; column++) {
                good |= at == 4 * row + column;
            }
        }
        if (good) {
            SmithForms x = new SmithForms(m, n);
            checks.due("new(" + m + ", " + n + ").set(1, " + at + ", 7)", x.set(1, at, 7), 0);
            checks.due("get of that row and column", x.get(1, at / 4, at % 4), 7);
        } else {
            setRefused(m, n, 0, at, 7, -2);
            setRefused(m, n, 1, at, 7, -2);
        }
    }

    private static void setRefusesValues() {
        for (int value : WRONG_ENTRIES) {
            setRefused(4, 4, 0, 0, value, -3);
            setRefused(4, 4, 1, 15, value, -3);
            setRefused(1, 1, 0, 0, value, -3);
        }
    }

    private static void setTakesAllElse() {
        for (int value = -12; value <= 12; value++) {
            SmithForms x = new SmithForms(3, 2);
            String last = ", " + value + ") of 3 rows, 2 columns";
            checks.due("set(0, 0" + last, x.set(0, 0, value), 0);
            checks.due("set(1, 9" + last, x.set(1, 9, value), 0);
            checks.due("set(1, 9" + last + " once more", x.set(1, 9, value), 0);
        }
    }

    private static void setRefused(int m, int n, int t, int at, int value, int due) {
        SmithForms x = new SmithForms(m, n);
        int[] want = Tables.putEverywhere(x, m, n);
        String call = "new(" + m + ", " + n + "), .., set(" + t + ", " + at + ", " + value + ")";
        checks.due(call, x.set(t, at, value), due);
        Tables.cellsDue(checks, call, x, want);
    }

    // ---- promise 5: fill

    private static void promise5() {
        doc.test("Promise 5", "Sets all numbers of a row: column j gets start + j * step + j * j * bend",
                StateTest::fillPutsTheNumbers);
        doc.test("Promise 5", "if that is in -12 .. 12 for all columns.", StateTest::fillLooksAtTheColumnsThereAre);
        doc.test("Promise 5", "-1 if t is not good", StateTest::fillRefusesTables);
        doc.test("Promise 5", "-2 if row is not good", StateTest::fillRefusesRows);
        doc.test("Promise 5", "-3 if start, step or bend is not in -12 .. 12", StateTest::fillRefusesStartStepBend);
        doc.test("Promise 5", "or one of the numbers would not be in -12 .. 12", StateTest::fillRefusesNumbers);
        doc.test("Promise 5", "otherwise 0.", StateTest::fillTakesAllElse);
        doc.test("Promise 5", "bent is 32 * (step + 12) + (bend + 12).", StateTest::fillKnowsEveryBent);
        doc.test("Promise 5", "(A bent that is not such a number is the case of -3.)", StateTest::fillRefusesBents);
    }

    private static void fillPutsTheNumbers() {
        for (int m = 1; m <= 4; m++) {
            for (int n = 1; n <= 4; n++) {
                for (int t = 0; t <= 1; t++) {
                    for (int row = 0; row < m; row++) {
                        filled(m, n, t, row, 1, -3, 2);
                        filled(m, n, t, row, -12, 2, 1);
                        filled(m, n, t, row, 0, 0, 0);
                    }
                }
            }
        }
    }

    private static void filled(int m, int n, int t, int row, int start, int step, int bend) {
        SmithForms x = new SmithForms(m, n);
        int[] want = Tables.putEverywhere(x, m, n);
        for (int j = 0; j < n; j++) {
            want[16 * t + 4 * row + j] = start + j * step + j * j * bend;
        }
        String call = "new(" + m + ", " + n + "), .., fill(" + t + ", " + row + ", " + start + ", bent of " + step
                + " and " + bend + ")";
        checks.due(call, x.fill(t, row, start, Tables.bent(step, bend)), 0);
        Tables.cellsDue(checks, call, x, want);
    }

    private static void fillLooksAtTheColumnsThereAre() {
        for (int n = 1; n <= 4; n++) {
            // Column n - 1 gets the last number that fits, column n would get the first that doesn't.
            filled(2, n, 0, 1, 12 - (n - 1), 1, 0);
            filled(2, n, 1, 0, (n - 1) - 12, -1, 0);
            filled(2, n, 0, 0, 12 - (n - 1) * (n - 1), 0, 1);
            filled(2, n, 1, 1, (n - 1) * (n - 1) - 12, 0, -1);
            fillRefused(2, n, 0, 1, 13 - (n - 1), Tables.bent(1, 0), -3);
            fillRefused(2, n, 0, 1, (n - 1) - 13, Tables.bent(-1, 0), -3);
            fillRefused(2, n, 1, 0, 13 - (n - 1) * (n - 1), Tables.bent(0, 1), -3);
            fillRefused(2, n, 1, 0, (n - 1) * (n - 1) - 13, Tables.bent(0, -1), -3);
        }
        filled(1, 1, 0, 0, 12, 12, 12);
        filled(1, 1, 0, 0, -12, -12, -12);
        filled(1, 2, 0, 0, 0, 12, -12);
    }

    private static void fillRefusesTables() {
        for (int t : Tables.WRONG_TABLES) {
            fillRefused(4, 4, t, 0, 5, LEVEL, -1);
            fillRefused(4, 4, t, 3, 5, LEVEL, -1);
            fillRefused(1, 1, t, 0, 5, LEVEL, -1);
        }
    }

    private static void fillRefusesRows() {
        for (int m = 1; m <= 4; m++) {
            for (int row : PLACES) {
                if (row < 0 || row >= m) {
                    fillRefused(m, 4, 0, row, 5, LEVEL, -2);
                    fillRefused(m, 1, 1, row, 5, LEVEL, -2);
                }
            }
        }
    }

    private static void fillRefusesStartStepBend() {
        for (int n = 1; n <= 4; n++) {
            for (int start : WRONG_ENTRIES) {
                fillRefused(2, n, 0, 1, start, LEVEL, -3);
                fillRefused(2, n, 0, 1, start, Tables.bent(-12, 0), -3);
                fillRefused(2, n, 0, 1, start, Tables.bent(12, 0), -3);
            }
            // With one column, step and bend show in no number, and are refused all the same.
            for (int step : new int[] {-14, -13, 13, 14, 20, 1000}) {
                fillRefused(2, n, 1, 0, 0, Tables.bent(step, 0), -3);
            }
            for (int bend = 13; bend <= 19; bend++) {
                fillRefused(2, n, 1, 0, 0, Tables.bent(0, bend), -3);
                fillRefused(2, n, 1, 0, 0, Tables.bent(-12, bend), -3);
                fillRefused(2, n, 1, 0, 0, Tables.bent(12, bend), -3);
            }
        }
    }

    private static void fillRefusesNumbers() {
        // The number that doesn't fit is the last, the middle one alone, or the second alone.
        fillRefused(1, 4, 0, 0, 10, Tables.bent(1, 0), -3);
        fillRefused(1, 4, 0, 0, -10, Tables.bent(-1, 0), -3);
        fillRefused(1, 4, 0, 0, 5, Tables.bent(12, -4), -3);
        fillRefused(1, 4, 0, 0, -5, Tables.bent(-12, 4), -3);
        fillRefused(1, 3, 1, 0, 9, Tables.bent(8, -4), -3);
        fillRefused(1, 3, 1, 0, -9, Tables.bent(-8, 4), -3);
        fillRefused(1, 2, 1, 0, 1, Tables.bent(12, 0), -3);
        fillRefused(1, 2, 1, 0, -1, Tables.bent(0, -12), -3);
        fillRefused(4, 4, 0, 3, 12, Tables.bent(12, 12), -3);
        fillRefused(4, 4, 1, 3, -12, Tables.bent(-12, -12), -3);
    }

    private static void fillTakesAllElse() {
        SmithForms x = new SmithForms(3, 4);
        checks.due("fill(0, 0, 12, ..) level", x.fill(0, 0, 12, LEVEL), 0);
        checks.due("fill(0, 2, -12, ..) level", x.fill(0, 2, -12, LEVEL), 0);
        checks.due("fill(1, 2, 12, ..) by -8", x.fill(1, 2, 12, Tables.bent(-8, 0)), 0);
        checks.due("fill(1, 0, -12, ..) by 8", x.fill(1, 0, -12, Tables.bent(8, 0)), 0);
        checks.due("fill(1, 0, -12, ..) by 8, once more", x.fill(1, 0, -12, Tables.bent(8, 0)), 0);
    }

    /** Every start, step and bend there is. */
    private static void fillKnowsEveryBent() {
        for (int n = 1; n <= 4; n++) {
            for (int start = -12; start <= 12; start++) {
                for (int step = -12; step <= 12; step++) {
                    for (int bend = -12; bend <= 12; bend++) {
                        fillDue(n, start, step, bend);
                    }
                }
            }
        }
    }

    private static void fillDue(int n, int start, int step, int bend) {
        boolean fits = true;
        for (int j = 0; j < n; j++) {
            int number = start + j * step + j * j * bend;
            fits &= number >= -12 && number <= 12;
        }
        SmithForms x = new SmithForms(1, n);
        String call = "fill(1, 0, " + start + ", bent of " + step + " and " + bend + ") of " + n + " columns";
        checks.due(call, x.fill(1, 0, start, Tables.bent(step, bend)), fits ? 0 : -3);
        for (int j = 0; j < n; j++) {
            checks.due(call + ", get(1, 0, " + j + ")", x.get(1, 0, j), fits ? start + j * step + j * j * bend : 0);
        }
    }

    private static void fillRefusesBents() {
        Map<Integer, Boolean> good = new HashMap<>();
        for (int step = -12; step <= 12; step++) {
            for (int bend = -12; bend <= 12; bend++) {
                good.put(Tables.bent(step, bend), true);
            }
        }
        // With one column a good bent is never refused, so that each refusal here is the bent's own.
        for (int bent = -900; bent <= 1700; bent++) {
            SmithForms x = new SmithForms(1, 1);
            checks.due("fill(0, 0, 5, " + bent + ")", x.fill(0, 0, 5, bent), good.containsKey(bent) ? 0 : -3);
            checks.due("get after it", x.get(0, 0, 0), good.containsKey(bent) ? 5 : 0);
        }
        for (int bent : new int[] {LEAST, LEAST + 12, LEAST + LEVEL, -LEVEL, 1 << 30, (1 << 30) + LEVEL, GREATEST}) {
            fillRefused(2, 1, 0, 1, 0, bent, -3);
            fillRefused(2, 4, 1, 0, 0, bent, -3);
        }
    }

    private static void fillRefused(int m, int n, int t, int row, int start, int bent, int due) {
        SmithForms x = new SmithForms(m, n);
        int[] want = Tables.putEverywhere(x, m, n);
        String call = "new(" + m + ", " + n + "), .., fill(" + t + ", " + row + ", " + start + ", " + bent + ")";
        checks.due(call, x.fill(t, row, start, bent), due);
        Tables.cellsDue(checks, call, x, want);
    }

    // ---- promise 6: aim

    private static void promise6() {
        doc.test("Promise 6", "Sets a number of the target.", StateTest::aimPutsTheNumber);
        doc.test("Promise 6", "-1 if row is not good", StateTest::aimRefusesRows);
        doc.test("Promise 6", "-2 if value is not in -200 .. 200", StateTest::aimRefusesValues);
        doc.test("Promise 6", "otherwise 0.", StateTest::aimTakesAllElse);
    }

    private static void aimPutsTheNumber() {
        for (int m = 1; m <= 4; m++) {
            for (int row = 0; row < m; row++) {
                for (int value = -200; value <= 200; value++) {
                    SmithForms x = new SmithForms(m, 1);
                    x.set(0, 4 * row, 11);
                    x.aim(row, value);
                    checks.due("11 in row " + row + ", aim(" + row + ", " + value + "), multiple(0)", x.multiple(0),
                            value % 11 == 0 ? 1 : 11);
                    checks.due("the same with nothing but 0", x.reaches(1), value == 0 ? 1 : 0);
                }
            }
        }
        SmithForms x = Tables.with(Tables.row(10), Tables.row(-10), Tables.row(5), Tables.row(1));
        Tables.aim(x, 200, -200, 100, 20);
        checks.due("reaches(0), each row with its own number", x.reaches(0), 1);
        x.aim(1, 200);
        checks.due("reaches(0), one row aimed anew", x.reaches(0), 0);
        x.aim(1, -200);
        checks.due("reaches(0), and back", x.reaches(0), 1);
    }

    private static void aimRefusesRows() {
        for (int m = 1; m <= 4; m++) {
            for (int row : PLACES) {
                if (row < 0 || row >= m) {
                    aimRefused(m, row, 9, -1);
                    aimRefused(m, row, 0, -1);
                }
            }
        }
    }

    private static void aimRefusesValues() {
        for (int m = 1; m <= 4; m++) {
            for (int row = 0; row < m; row++) {
                for (int value : new int[] {LEAST, -1000, -202, -201, 201, 202, 256, 1000, GREATEST}) {
                    aimRefused(m, row, value, -2);
                }
            }
        }
    }

    private static void aimTakesAllElse() {
        for (int m = 1; m <= 4; m++) {
            for (int row = 0; row < m; row++) {
                for (int value = -200; value <= 200; value++) {
                    String call = "new(" + m + ", 2).aim(" + row + ", " + value + ")";
                    checks.due(call, new SmithForms(m, 2).aim(row, value), 0);
                }
            }
        }
    }

    /** The target is the one column of the table, and every other target with such numbers lies off its line. */
    private static void aimRefused(int m, int row, int value, int due) {
        SmithForms x = new SmithForms(m, 1);
        for (int i = 0; i < m; i++) {
            x.set(0, 4 * i, 7 + i);
            x.aim(i, 7 + i);
        }
        x.set(1, 0, 11);
        String call = "new(" + m + ", 1), .., aim(" + row + ", " + value + ")";
        checks.due(call, x.aim(row, value), due);
        checks.due(call + ", reaches(0)", x.reaches(0), 1);
        checks.due(call + ", multiple(1)", x.multiple(1), m == 1 ? 11 : 0);
        checks.due(call + ", solutions(1, 6)", x.solutions(1, 6), m == 1 ? 1 : 0);
    }

    // ---- promise 7: mirror

    private static void promise7() {
        doc.test("Promise 7", "Table t becomes the other table with its columns in reverse order.",
                StateTest::mirrorReverses);
        doc.test("Promise 7", "-1 if t is not good", StateTest::mirrorRefusesTables);
        doc.test("Promise 7", "otherwise 0.", StateTest::mirrorTakesAllElse);
    }

    private static void mirrorReverses() {
        for (int m = 1; m <= 4; m++) {
            for (int n = 1; n <= 4; n++) {
                for (int t = 0; t <= 1; t++) {
                    SmithForms x = new SmithForms(m, n);
                    int[] want = Tables.putEverywhere(x, m, n);
                    for (int cell = 0; cell < m * n; cell++) {
                        int row = cell / n;
                        int column = cell % n;
                        want[16 * t + 4 * row + column] = want[16 * (1 - t) + 4 * row + n - 1 - column];
                    }
                    x.mirror(t);
                    Tables.cellsDue(checks, "new(" + m + ", " + n + "), .., mirror(" + t + ")", x, want);
                    x.mirror(t);
                    Tables.cellsDue(checks, "the same mirror once more", x, want);
                }
            }
        }
        mirrorLeavesTheTarget();
    }

    private static void mirrorLeavesTheTarget() {
        SmithForms x = Tables.with(Tables.row(4));
        x.aim(0, 6);
        x.mirror(1);
        checks.due("multiple(1) after mirror(1)", x.multiple(1), 2);
        x.mirror(0);
        checks.due("multiple(0) after mirror(0)", x.multiple(0), 2);
    }

    private static void mirrorRefusesTables() {
        for (int t : Tables.WRONG_TABLES) {
            SmithForms x = new SmithForms(3, 4);
            int[] want = Tables.putEverywhere(x, 3, 4);
            checks.due("mirror(" + t + ")", x.mirror(t), -1);
            Tables.cellsDue(checks, "mirror(" + t + ")", x, want);
        }
    }

    private static void mirrorTakesAllElse() {
        for (int m = 1; m <= 4; m++) {
            for (int n = 1; n <= 4; n++) {
                SmithForms x = new SmithForms(m, n);
                checks.due("mirror(0) of a new object", x.mirror(0), 0);
                checks.due("mirror(1) of a new object", x.mirror(1), 0);
                Tables.cellsDue(checks, "both mirrors of a new object", x, NOTHING);
                Tables.putEverywhere(x, m, n);
                checks.due("mirror(0)", x.mirror(0), 0);
                checks.due("mirror(1)", x.mirror(1), 0);
            }
        }
    }

    // ---- promise 8: get

    private static void promise8() {
        doc.test("Promise 8", "A number of a table", StateTest::getAnswersTheNumber);
        doc.test("Promise 8", "0 if t, row or column is not good.", StateTest::getAnswers0Outside);
    }

    private static void getAnswersTheNumber() {
        for (int m = 1; m <= 4; m++) {
            for (int n = 1; n <= 4; n++) {
                SmithForms x = new SmithForms(m, n);
                int[] want = Tables.putEverywhere(x, m, n);
                Tables.cellsDue(checks, "new(" + m + ", " + n + "), ..", x, want);
            }
        }
    }

    private static void getAnswers0Outside() {
        for (int m = 1; m <= 4; m++) {
            for (int n = 1; n <= 4; n++) {
                SmithForms x = new SmithForms(m, n);
                Tables.putEverywhere(x, m, n);
                for (int t : Tables.WRONG_TABLES) {
                    checks.due("get(" + t + ", 0, 0)", x.get(t, 0, 0), 0);
                    checks.due("get(" + t + ", last, last)", x.get(t, m - 1, n - 1), 0);
                }
                for (int place : PLACES) {
                    getOutsideBy(place, m, n);
                }
            }
        }
    }

    private static void getOutsideBy(int place, int m, int n) {
        // A new object each time: none may come to more than 512 calls.
        SmithForms x = new SmithForms(m, n);
        Tables.putEverywhere(x, m, n);
        for (int t = 0; t <= 1; t++) {
            for (int other : PLACES) {
                if (place < 0 || place >= m) {
                    checks.due("get(" + t + ", " + place + ", " + other + ")", x.get(t, place, other), 0);
                }
                if (place < 0 || place >= n) {
                    checks.due("get(" + t + ", " + other + ", " + place + ")", x.get(t, other, place), 0);
                }
            }
        }
    }
}
