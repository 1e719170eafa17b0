/** Promises 9 to 17, on tables whose answers are known by hand, at the edges, and with wrong inputs. */
public final class QuestionsTest {
    private static final int[] WRONG_TABLES = {Integer.MIN_VALUE, -2, -1, 2, 3, 32, Integer.MAX_VALUE};
    private static final Checks checks = new Checks();

    public static void main(String[] args) {
        wrongTables();
        promise9Rank();
        promise10Divisor();
        promise11Factor();
        promise12Reaches();
        promise13Multiple();
        promise14Solutions();
        promise15Within();
        promise16Classes();
        promise17Determinant();
        questionsChangeNothing();
        checks.end();
    }

    /** An object whose table 0 holds these rows; the other table and the target are all 0. */
    private static SmithForms with(int[]... rows) {
        SmithForms x = new SmithForms(rows.length, rows[0].length);
        put(x, 0, rows);
        return x;
    }

    /** No table has a minor of size 4 that is farther from 0. */
    private static SmithForms withGreatestMinors() {
        return with(row(12, 12, 12, 12), row(12, -12, 12, -12), row(12, 12, -12, -12), row(12, -12, -12, 12));
    }

    private static void put(SmithForms x, int t, int[]... rows) {
        for (int row = 0; row < rows.length; row++) {
            for (int column = 0; column < rows[row].length; column++) {
                checks.due("set", x.set(t, 4 * row + column, rows[row][column]), 0);
            }
        }
    }

    private static void aim(SmithForms x, int... target) {
        for (int row = 0; row < target.length; row++) {
            checks.due("aim", x.aim(row, target[row]), 0);
        }
    }

    private static int[] row(int... numbers) {
        return numbers;
    }

    private static void wrongTables() {
        SmithForms x = with(row(2, 0), row(0, 3));
        for (int t : WRONG_TABLES) {
            checks.due("rank(" + t + ")", x.rank(t), -1);
            checks.due("divisor(" + t + ", 1)", x.divisor(t, 1), -1);
            checks.due("divisor(" + t + ", 5)", x.divisor(t, 5), -1);
            checks.due("factor(" + t + ", 1)", x.factor(t, 1), -1);
            checks.due("factor(" + t + ", 0)", x.factor(t, 0), -1);
            checks.due("reaches(" + t + ")", x.reaches(t), -1);
            checks.due("multiple(" + t + ")", x.multiple(t), -1);
            checks.due("solutions(" + t + ", 2)", x.solutions(t, 2), -1);
            checks.due("solutions(" + t + ", 0)", x.solutions(t, 0), -1);
            checks.due("within(" + t + ")", x.within(t), -1);
            checks.due("classes(" + t + ")", x.classes(t), -1);
            checks.due("determinant(" + t + ")", x.determinant(t), 0);
        }
    }

    private static void promise9Rank() {
        for (int m = 1; m <= 4; m++) {
            for (int n = 1; n <= 4; n++) {
                SmithForms x = new SmithForms(m, n);
                checks.due("rank of nothing but 0", x.rank(0), 0);
                for (int i = 0; i < Math.min(m, n); i++) {
                    x.set(1, 4 * (m - 1 - i) + i, 12);
                    checks.due("rank with " + (i + 1) + " apart", x.rank(1), i + 1);
                }
                checks.due("rank of the other table", x.rank(0), 0);
            }
        }
        checks.due("rank of equal rows", with(row(1, 2, 3, 4), row(1, 2, 3, 4), row(2, 4, 6, 8)).rank(0), 1);
        checks.due("rank of rows in steps",
                with(row(1, 2, 3, 4), row(5, 6, 7, 8), row(9, 10, 11, 12), row(-1, -2, -3, -4)).rank(0), 2);
        checks.due("rank 3 of 4", with(row(1, 0, 0, 1), row(0, 1, 0, 1), row(0, 0, 1, 1), row(1, 1, 1, 3)).rank(0), 3);
        checks.due("rank 1 in the last cell",
                with(row(0, 0, 0, 0), row(0, 0, 0, 0), row(0, 0, 0, 0), row(0, 0, 0, -7)).rank(0), 1);
    }

    private static void promise10Divisor() {
        SmithForms x = with(row(2, 4, 4), row(-6, 6, 12), row(10, 4, 12));
        long[] due = {1, 2, 4, 480, 0};
        for (int k = 0; k <= 4; k++) {
            checks.due("divisor(0, " + k + ")", x.divisor(0, k), due[k]);
        }
        for (int k : new int[] {Integer.MIN_VALUE, -2, -1, 5, 6, 16, Integer.MAX_VALUE}) {
            checks.due("divisor(0, " + k + ")", x.divisor(0, k), -2);
        }
        checks.due("divisor 0 of nothing but 0", x.divisor(1, 0), 1);
        checks.due("divisor 1 of nothing but 0", x.divisor(1, 1), 0);
        checks.due("divisor 4 of nothing but 0", x.divisor(1, 4), 0);
        checks.due("a divisor is not negative", with(row(-7)).divisor(0, 1), 7);
        checks.due("divisor with more columns than rows", with(row(6, 10, 0, -4)).divisor(0, 1), 2);
        checks.due("divisor above the rows", with(row(6, 10, 0, -4)).divisor(0, 2), 0);
        checks.due("divisor with more rows than columns", with(row(0), row(9), row(-6)).divisor(0, 1), 3);
        checks.due("divisor above the columns", with(row(0), row(9), row(-6)).divisor(0, 2), 0);
        SmithForms greatest = withGreatestMinors();
        checks.due("greatest divisor 4", greatest.divisor(0, 4), 331776);
        checks.due("divisor 3 beside it", greatest.divisor(0, 3), 6912);
        checks.due("divisor 2 beside it", greatest.divisor(0, 2), 288);
        SmithForms two = with(row(2, 0, 0), row(0, 6, 0));
        checks.due("divisor 2 of 2 by 3", two.divisor(0, 2), 12);
        two.set(0, 6, 3);
        checks.due("divisor 2 of 2 by 3, all minors told", two.divisor(0, 2), 6);
    }

    private static void promise11Factor() {
        SmithForms x = with(row(2, 4, 4), row(-6, 6, 12), row(10, 4, 12));
        long[] due = {0, 2, 2, 120, 0};
        for (int k = 1; k <= 4; k++) {
            checks.due("factor(0, " + k + ")", x.factor(0, k), due[k]);
            checks.due("factor(1, " + k + ") of nothing but 0", x.factor(1, k), 0);
        }
        for (int k : new int[] {Integer.MIN_VALUE, -1, 0, 5, 6, Integer.MAX_VALUE}) {
            checks.due("factor(0, " + k + ")", x.factor(0, k), -2);
        }
        SmithForms low = with(row(4, 0, 0, 0), row(0, 6, 0, 0), row(0, 0, 0, 0), row(0, 0, 0, 0));
        checks.due("factor 1 of rank 2", low.factor(0, 1), 2);
        checks.due("factor 2 of rank 2", low.factor(0, 2), 12);
        checks.due("factor 3 of rank 2", low.factor(0, 3), 0);
        checks.due("factor 4 of rank 2", low.factor(0, 4), 0);
        SmithForms full = with(row(-12, 0, 0, 0), row(0, 12, 0, 0), row(0, 0, -12, 0), row(0, 0, 0, 12));
        for (int k = 1; k <= 4; k++) {
            checks.due("factor " + k + " of 12 four times", full.factor(0, k), 12);
        }
    }

    private static void promise12Reaches() {
        SmithForms x = with(row(6, 10));
        for (int value = -200; value <= 200; value++) {
            checks.due("aim", x.aim(0, value), 0);
            if (value % 2 != 0 || value % 50 == 0) {
                checks.due("reaches(0) at " + value, x.reaches(0), value % 2 == 0 ? 1 : 0);
            }
            if (value == 0) {
                x = with(row(6, 10));
            }
        }
        SmithForms plane = with(row(1, 0), row(0, 2), row(0, 0));
        aim(plane, 5, -4, 0);
        checks.due("reaches in the plane", plane.reaches(0), 1);
        checks.due("reaches of nothing but 0", plane.reaches(1), 0);
        aim(plane, 5, -3, 0);
        checks.due("reaches between the points", plane.reaches(0), 0);
        aim(plane, 5, -4, 1);
        checks.due("reaches off the plane", plane.reaches(0), 0);
        aim(plane, 0, 0, 0);
        checks.due("0 is always reached", plane.reaches(0), 1);
        checks.due("0 is reached with nothing but 0", plane.reaches(1), 1);
        SmithForms negative = with(row(-3));
        aim(negative, 9);
        checks.due("reaches with a negative multiple", negative.reaches(0), 1);
        SmithForms skew = with(row(1, 1), row(1, -1));
        aim(skew, 1, 0);
        checks.due("whole numbers only", skew.reaches(0), 0);
        aim(skew, 200, -200);
        checks.due("a far target", skew.reaches(0), 1);
    }

    private static void promise13Multiple() {
        SmithForms ten = with(row(10, 1), row(0, 10));
        aim(ten, 0, 1);
        checks.due("multiple 100", ten.multiple(0), 100);
        SmithForms prime = with(row(10, 1), row(-1, 10));
        aim(prime, 0, 1);
        checks.due("multiple 101 is beyond", prime.multiple(0), 0);
        aim(prime, 10, -1);
        checks.due("multiple of a reached target", prime.multiple(0), 1);
        aim(prime, 0, 101);
        checks.due("multiple of a reached far target", prime.multiple(0), 1);
        SmithForms below = with(row(10, 1), row(1, 10));
        aim(below, 0, 1);
        checks.due("multiple 99", below.multiple(0), 99);
        aim(below, 0, 33);
        checks.due("multiple 3", below.multiple(0), 3);
        aim(below, 0, 11);
        checks.due("multiple 9", below.multiple(0), 9);
        checks.due("multiple with nothing but 0", below.multiple(1), 0);
        aim(below, 0, 0);
        checks.due("multiple of target 0", below.multiple(0), 1);
        checks.due("multiple of target 0 with nothing but 0", below.multiple(1), 1);
        SmithForms line = with(row(12), row(0));
        aim(line, 5, 0);
        checks.due("multiple 12", line.multiple(0), 12);
        aim(line, -8, 0);
        checks.due("multiple of a negative target", line.multiple(0), 3);
        aim(line, 12, 1);
        checks.due("no multiple off the line", line.multiple(0), 0);
    }

    private static void promise14Solutions() {
        SmithForms zero = new SmithForms(4, 4);
        int[] due = {0, 1, 16, 81, 256, 625, 1296};
        for (int p = 1; p <= 6; p++) {
            checks.due("solutions of nothing but 0, " + p, zero.solutions(1, p), due[p]);
        }
        for (int p : new int[] {Integer.MIN_VALUE, -1, 0, 7, 8, Integer.MAX_VALUE}) {
            checks.due("solutions(0, " + p + ")", zero.solutions(0, p), -2);
        }
        aim(zero, 60, -120, 0, 180);
        for (int p = 1; p <= 6; p++) {
            checks.due("solutions with a target that is a multiple of " + p, zero.solutions(0, p), due[p]);
        }
        aim(zero, 60, -120, 0, 181);
        checks.due("solutions by 1", zero.solutions(0, 1), 1);
        for (int p = 2; p <= 6; p++) {
            checks.due("no solutions by " + p, zero.solutions(0, p), 0);
        }
        SmithForms line = with(row(2, 0, 0));
        aim(line, 4);
        checks.due("2x = 4 by 6, two columns free", line.solutions(0, 6), 72);
        checks.due("2x = 4 by 5, two columns free", line.solutions(0, 5), 25);
        aim(line, -1);
        checks.due("2x = -1 by 5", line.solutions(0, 5), 25);
        checks.due("2x = -1 by 4", line.solutions(0, 4), 0);
        checks.due("2x = -1 by 3", line.solutions(0, 3), 9);
        SmithForms sign = with(row(-5));
        aim(sign, -200);
        checks.due("-5x = -200 by 6", sign.solutions(0, 6), 1);
        checks.due("-5x = -200 by 5", sign.solutions(0, 5), 5);
        SmithForms rows = with(row(1, 0), row(0, 1), row(1, 1));
        aim(rows, 1, 2, 3);
        checks.due("every row counts", rows.solutions(0, 4), 1);
        aim(rows, 1, 2, 0);
        checks.due("every row counts against", rows.solutions(0, 4), 0);
        checks.due("a sum is taken by p", rows.solutions(0, 3), 1);
    }

    private static void promise15Within() {
        SmithForms x = with(row(4, 6));
        put(x, 1, row(2, 0));
        checks.due("within, the same combinations", x.within(0), 1);
        checks.due("within, the same combinations, turned", x.within(1), 1);
        put(x, 1, row(1, 0));
        checks.due("within the greater", x.within(0), 1);
        checks.due("not within the smaller", x.within(1), 0);
        put(x, 1, row(0, 0));
        checks.due("not within nothing but 0", x.within(0), 0);
        checks.due("nothing but 0 is within", x.within(1), 1);
        SmithForms last = with(row(2, 0, 0), row(0, 2, 1));
        put(last, 1, row(2, 0, 0), row(0, 2, 0));
        checks.due("not within for the last column", last.within(0), 0);
        checks.due("within, turned", last.within(1), 1);
        SmithForms apart = with(row(1, 0), row(0, 0));
        put(apart, 1, row(0, 0), row(0, 1));
        checks.due("neither within the other, 0", apart.within(0), 0);
        checks.due("neither within the other, 1", apart.within(1), 0);
        SmithForms empty = new SmithForms(4, 4);
        checks.due("0 within 0", empty.within(0), 1);
        checks.due("0 within 0, turned", empty.within(1), 1);
        aim(empty, 1, 2, 3, 4);
        checks.due("the target is no part of it", empty.within(0), 1);
    }

    private static void promise16Classes() {
        checks.due("classes by 12", with(row(-12)).classes(0), 12);
        checks.due("classes by 6 and 10", with(row(6, 10)).classes(0), 2);
        checks.due("classes, rank below m", with(row(1, 0), row(0, 0)).classes(0), 0);
        checks.due("classes, more rows than columns", with(row(1), row(1)).classes(0), 0);
        checks.due("classes of nothing but 0", new SmithForms(1, 1).classes(0), 0);
        checks.due("one class", with(row(1, 0, 5), row(0, 1, 7)).classes(0), 1);
        checks.due("classes with more columns than rows", with(row(4, 0, 2), row(0, 4, 2)).classes(0), 8);
        checks.due("classes is not negative", with(row(0, 3), row(5, 0)).classes(0), 15);
        checks.due("most classes", withGreatestMinors().classes(0), 331776);
    }

    private static void promise17Determinant() {
        checks.due("determinant of one", with(row(-7)).determinant(0), -7);
        checks.due("determinant of two", with(row(1, 2), row(3, 4)).determinant(0), -2);
        checks.due("determinant of two rows changed", with(row(0, 3), row(5, 0)).determinant(0), -15);
        checks.due("determinant of three", with(row(2, 4, 4), row(-6, 6, 12), row(10, 4, 12)).determinant(0), 480);
        checks.due("determinant of three in a round", with(row(0, 1, 0), row(0, 0, 1), row(1, 0, 0)).determinant(0), 1);
        checks.due("determinant of four in a round",
                with(row(0, 1, 0, 0), row(0, 0, 1, 0), row(0, 0, 0, 1), row(1, 0, 0, 0)).determinant(0), -1);
        SmithForms greatest = withGreatestMinors();
        checks.due("greatest determinant", greatest.determinant(0), 331776);
        put(greatest, 0, row(12, -12, 12, -12), row(12, 12, 12, 12));
        checks.due("least determinant", greatest.determinant(0), -331776);
        checks.due("determinant of rank 1", with(row(1, 2), row(2, 4)).determinant(0), 0);
        checks.due("determinant of nothing but 0", new SmithForms(4, 4).determinant(1), 0);
        for (int m = 1; m <= 4; m++) {
            for (int n = 1; n <= 4; n++) {
                SmithForms x = new SmithForms(m, n);
                for (int i = 0; i < Math.min(m, n); i++) {
                    x.set(1, 5 * i, 1);
                }
                checks.due("determinant, " + m + " by " + n, x.determinant(1), m == n ? 1 : 0);
                checks.due("determinant of the other table", x.determinant(0), 0);
            }
        }
    }

    private static void questionsChangeNothing() {
        SmithForms x = with(row(2, 4, 4), row(-6, 6, 12), row(10, 4, 12));
        put(x, 1, row(1, 0, 0), row(0, 5, 0), row(0, 0, 7));
        aim(x, 2, 6, 0);
        long[] first = answers(x);
        long[] second = answers(x);
        long[] third = answers(x);
        for (int i = 0; i < first.length; i++) {
            checks.due("answer " + i + " the second time", second[i], first[i]);
            checks.due("answer " + i + " the third time", third[i], first[i]);
        }
    }

    private static long[] answers(SmithForms x) {
        long[] all = new long[64];
        int next = 0;
        for (int t = 0; t <= 1; t++) {
            all[next++] = x.multiple(t);
            all[next++] = x.within(t);
            all[next++] = x.reaches(t);
            all[next++] = x.rank(t);
            for (int k = 0; k <= 4; k++) {
                all[next++] = x.divisor(t, k);
                all[next++] = x.factor(t, k);
            }
            all[next++] = x.solutions(t, 6);
            all[next++] = x.classes(t);
            all[next++] = x.determinant(t);
            for (int cell = 0; cell < 9; cell++) {
                all[next++] = x.get(t, cell / 3, cell % 3);
            }
        }
        return all;
    }
}
