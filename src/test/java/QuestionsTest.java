import java.util.function.IntToLongFunction;

/** Promises 9 to 17, sentence by sentence, on tables whose answers are known by hand. */
public final class QuestionsTest {
    private static final int LEAST = Integer.MIN_VALUE;
    private static final int GREATEST = Integer.MAX_VALUE;

    private static final Checks checks = new Checks();
    private static final Sentences doc = new Sentences(checks);

    public static void main(String[] args) {
        promises9To11();
        promises12And13();
        promise14();
        promise15();
        promise16();
        promise17();
        for (int number = 9; number <= 17; number++) {
            doc.nothingLeftOf("Promise " + number);
        }
        checks.end();
    }

    private static SmithForms with(int[]... rows) {
        return Tables.with(rows);
    }

    private static int[] row(int... numbers) {
        return Tables.row(numbers);
    }

    /** A table that has an answer above 0 to every question. */
    private static SmithForms ordinary() {
        SmithForms x = with(row(2, 4, 4), row(-6, 6, 12), row(10, 4, 12));
        Tables.put(x, 1, row(1, 0, 0), row(0, 1, 0), row(0, 0, 1));
        return x;
    }

    private static void refusedForTables(String call, IntToLongFunction asked) {
        for (int t : Tables.WRONG_TABLES) {
            checks.due(call + " of table " + t, asked.applyAsLong(t), -1);
        }
    }

    /** Every number outside low .. high is refused with -2: the neighbours, and those that a shift takes for others. */
    private static void refusedOutside(int low, int high, String call, IntToLongFunction asked) {
        for (int number = low - 40; number <= high + 40; number++) {
            if (number < low || number > high) {
                checks.due(call + " " + number, asked.applyAsLong(number), -2);
            }
        }
        for (int number : new int[] {LEAST, LEAST + 1, LEAST + 4, -256, 256, 1 << 16, 1 << 30, GREATEST}) {
            checks.due(call + " " + number, asked.applyAsLong(number), -2);
        }
    }

    // ---- promises 9 to 11: rank, divisor, factor

    private static void promises9To11() {
        doc.test("Promise 9", "The rank of a table", QuestionsTest::rankOfATable);
        doc.test("Promise 9", "-1 if t is not good.", () -> refusedForTables("rank", ordinary()::rank));
        doc.test("Promise 10", "Divisor k of a table.", QuestionsTest::divisorOfATable);
        doc.test("Promise 10", "-1 if t is not good", QuestionsTest::divisorRefusesTables);
        doc.test("Promise 10", "-2 if k is not in 0 .. 4.", QuestionsTest::divisorRefusesK);
        doc.test("Promise 11", "Factor k of a table.", QuestionsTest::factorOfATable);
        doc.test("Promise 11", "-1 if t is not good", QuestionsTest::factorRefusesTables);
        doc.test("Promise 11", "-2 if k is not in 1 .. 4.", QuestionsTest::factorRefusesK);
    }

    private static void rankOfATable() {
        checks.due("rank 0", new SmithForms(4, 4).rank(0), 0);
        checks.due("rank of equal rows", with(row(1, 2, 3, 4), row(1, 2, 3, 4), row(2, 4, 6, 8)).rank(0), 1);
        checks.due("rank of rows in steps",
                with(row(1, 2, 3, 4), row(5, 6, 7, 8), row(9, 10, 11, 12), row(-1, -2, -3, -4)).rank(0), 2);
        checks.due("rank 3 of 4", with(row(1, 0, 0, 1), row(0, 1, 0, 1), row(0, 0, 1, 1), row(1, 1, 1, 3)).rank(0), 3);
        checks.due("rank 4", Tables.withGreatestMinors().rank(0), 4);
        checks.due("rank of the last cell alone",
                with(row(0, 0, 0, 0), row(0, 0, 0, 0), row(0, 0, 0, 0), row(0, 0, 0, -7)).rank(0), 1);
        SmithForms x = ordinary();
        x.set(1, 10, 0);
        checks.due("rank(0)", x.rank(0), 3);
        checks.due("rank(1)", x.rank(1), 2);
    }

    private static void divisorOfATable() {
        SmithForms x = ordinary();
        long[] due = {1, 2, 4, 480, 0};
        long[] dueOfOther = {1, 1, 1, 1, 0};
        for (int k = 0; k <= 4; k++) {
            checks.due("divisor(0, " + k + ")", x.divisor(0, k), due[k]);
            checks.due("divisor(1, " + k + ")", x.divisor(1, k), dueOfOther[k]);
        }
        checks.due("divisor 1 of one row", with(row(6, 10, 0, -4)).divisor(0, 1), 2);
        checks.due("divisor 1 of one column", with(row(0), row(9), row(-6)).divisor(0, 1), 3);
    }

    private static void divisorRefusesTables() {
        for (int k = 0; k <= 4; k++) {
            int good = k;
            refusedForTables("divisor " + k, t -> ordinary().divisor(t, good));
        }
    }

    private static void divisorRefusesK() {
        for (int size = 1; size <= 4; size++) {
            SmithForms x = new SmithForms(size, size);
            Tables.putEverywhere(x, size, size);
            refusedOutside(0, 4, "divisor(0, ..) of size " + size + ", k", k -> x.divisor(0, k));
            refusedOutside(0, 4, "divisor(1, ..) of size " + size + ", k", k -> x.divisor(1, k));
            checks.due("divisor(0, 0), the least k", x.divisor(0, 0), 1);
            checks.holds("divisor(0, 4), the greatest k, is taken", x.divisor(0, 4) >= 0);
        }
        checks.due("divisor(0, 4), the greatest k", Tables.withGreatestMinors().divisor(0, 4), 331776);
    }

    private static void factorOfATable() {
        SmithForms x = ordinary();
        long[] due = {2, 2, 120, 0};
        long[] dueOfOther = {1, 1, 1, 0};
        for (int k = 1; k <= 4; k++) {
            checks.due("factor(0, " + k + ")", x.factor(0, k), due[k - 1]);
            checks.due("factor(1, " + k + ")", x.factor(1, k), dueOfOther[k - 1]);
            checks.due("factor " + k + " of nothing but 0", new SmithForms(4, 4).factor(0, k), 0);
        }
        SmithForms low = with(row(4, 0, 0, 0), row(0, 6, 0, 0), row(0, 0, 0, 0), row(0, 0, 0, 0));
        long[] dueOfLow = {2, 12, 0, 0};
        for (int k = 1; k <= 4; k++) {
            checks.due("factor " + k + " of 4 and 6 apart", low.factor(0, k), dueOfLow[k - 1]);
        }
    }

    private static void factorRefusesTables() {
        for (int k = 1; k <= 4; k++) {
            int good = k;
            refusedForTables("factor " + k, t -> ordinary().factor(t, good));
        }
    }

    private static void factorRefusesK() {
        for (int size = 1; size <= 4; size++) {
            SmithForms x = new SmithForms(size, size);
            Tables.putEverywhere(x, size, size);
            refusedOutside(1, 4, "factor(0, ..) of size " + size + ", k", k -> x.factor(0, k));
            refusedOutside(1, 4, "factor(1, ..) of size " + size + ", k", k -> x.factor(1, k));
            checks.due("factor(0, 1), the least k", x.factor(0, 1), 1);
            checks.holds("factor(0, 4), the greatest k, is taken", x.factor(0, 4) >= 0);
        }
        checks.due("factor(0, 4), the greatest k", Tables.withGreatestMinors().factor(0, 4), 48);
    }

    // ---- promises 12 and 13: reaches, multiple

    private static void promises12And13() {
        doc.test("Promise 12", "1 if the target is a combination of the table's columns", QuestionsTest::reaches);
        doc.test("Promise 12", "otherwise 0", QuestionsTest::reachesNot);
        doc.test("Promise 12", "-1 if t is not good.", () -> refusedForTables("reaches", ordinary()::reaches));
        doc.test("Promise 13", "The least k in 1 .. 100 such that k times the target is a combination of the table's"
                + " columns", QuestionsTest::multipleUpTo100);
        doc.test("Promise 13", "0 if there is none.", QuestionsTest::multipleOfNone);
        doc.test("Promise 13", "-1 if t is not good.", () -> refusedForTables("multiple", ordinary()::multiple));
    }

    private static void aimedDue(String call, SmithForms x, IntToLongFunction asked, long due, int... target) {
        Tables.aim(x, target);
        checks.due(call, asked.applyAsLong(0), due);
    }

    private static void reaches() {
        for (int value = -200; value <= 200; value += 2) {
            SmithForms x = with(row(6, 10));
            aimedDue("reaches of " + value + " by 6 and 10", x, x::reaches, 1, value);
        }
        SmithForms plane = with(row(1, 0), row(0, 2), row(0, 0));
        aimedDue("reaches in the plane", plane, plane::reaches, 1, 5, -4, 0);
        aimedDue("reaches of 0", plane, plane::reaches, 1, 0, 0, 0);
        checks.due("reaches of 0 with nothing but 0", plane.reaches(1), 1);
        SmithForms negative = with(row(-3));
        aimedDue("reaches with a negative multiple", negative, negative::reaches, 1, 9);
        SmithForms skew = with(row(1, 1), row(1, -1));
        aimedDue("reaches of a far target", skew, skew::reaches, 1, 200, -200);
        SmithForms last = with(row(0, 0, 0, 0), row(0, 0, 0, 0), row(0, 0, 0, 0), row(0, 0, 0, 12));
        aimedDue("reaches by the last cell alone", last, last::reaches, 1, 0, 0, 0, -192);
    }

    private static void reachesNot() {
        for (int value = -199; value <= 199; value += 2) {
            SmithForms x = with(row(6, 10));
            aimedDue("reaches of " + value + " by 6 and 10", x, x::reaches, 0, value);
        }
        SmithForms plane = with(row(1, 0), row(0, 2), row(0, 0));
        aimedDue("reaches between the points", plane, plane::reaches, 0, 5, -3, 0);
        aimedDue("reaches off the plane", plane, plane::reaches, 0, 5, -4, 1);
        aimedDue("reaches off the plane, below", plane, plane::reaches, 0, 0, 0, -1);
        checks.due("reaches with nothing but 0", plane.reaches(1), 0);
        SmithForms skew = with(row(1, 1), row(1, -1));
        aimedDue("reaches with halves alone", skew, skew::reaches, 0, 1, 0);
        SmithForms last = with(row(0, 0, 0, 0), row(0, 0, 0, 0), row(0, 0, 0, 0), row(0, 0, 0, 12));
        aimedDue("reaches next to the last cell", last, last::reaches, 0, 0, 0, 0, -191);
        aimedDue("reaches beside the last cell", last, last::reaches, 0, 0, 0, 1, 12);
    }

    /** The determinant is k, and no less than k times the target 0, 1 is a combination. */
    private static SmithForms withMultiple(int k) {
        SmithForms x = with(row(k / 12, 1), row(-(k % 12), 12));
        Tables.aim(x, 0, 1);
        return x;
    }

    private static void multipleUpTo100() {
        for (int k = 1; k <= 100; k++) {
            checks.due("multiple where " + k + " is the least", withMultiple(k).multiple(0), k);
            checks.due("reaches there", withMultiple(k).reaches(0), k == 1 ? 1 : 0);
        }
        SmithForms x = with(row(10, 1), row(1, 10));
        aimedDue("multiple of 0, 1 by 99", x, x::multiple, 99, 0, 1);
        aimedDue("multiple of 0, 33 by 99", x, x::multiple, 3, 0, 33);
        aimedDue("multiple of 0, 11 by 99", x, x::multiple, 9, 0, 11);
        aimedDue("multiple of 0, -99 by 99", x, x::multiple, 1, 0, -99);
        aimedDue("multiple of 0", x, x::multiple, 1, 0, 0);
        checks.due("multiple of 0 with nothing but 0", x.multiple(1), 1);
        SmithForms line = with(row(12), row(0));
        aimedDue("multiple of 5 by 12", line, line::multiple, 12, 5, 0);
        aimedDue("multiple of -8 by 12", line, line::multiple, 3, -8, 0);
        aimedDue("multiple of 200 by 12", line, line::multiple, 3, 200, 0);
        SmithForms apart = with(row(4, 0, 0, 0), row(0, 5, 0, 0), row(0, 0, 5, 0), row(0, 0, 0, 1));
        aimedDue("multiple by 4, 5, 5, 1", apart, apart::multiple, 20, 1, 1, 1, 1);
    }

    private static void multipleOfNone() {
        for (int k = 101; k <= 155; k++) {
            checks.due("multiple where " + k + " would be the least", withMultiple(k).multiple(0), 0);
        }
        SmithForms far = with(row(11, 0, 0), row(0, 7, 0), row(0, 0, 5));
        aimedDue("multiple where 385 would be the least", far, far::multiple, 0, 1, 1, 1);
        SmithForms line = with(row(12), row(0));
        aimedDue("multiple off the line", line, line::multiple, 0, 12, 1);
        aimedDue("multiple across the line", line, line::multiple, 0, 0, 200);
        checks.due("multiple with nothing but 0", line.multiple(1), 0);
    }

    // ---- promise 14: solutions

    private static void promise14() {
        doc.test("Promise 14", "How many rows x0, .., x(n-1) of numbers 0 .. p-1 there are such that",
                QuestionsTest::solutionsAreOfNumbersBelowP);
        doc.test("Promise 14", "for every row i", QuestionsTest::solutionsHoldInEveryRow);
        doc.test("Promise 14", "the sum over all columns j of (number of the table at i, j) * xj",
                QuestionsTest::solutionsTakeEveryColumn);
        doc.test("Promise 14", "minus the target's number i is a multiple of p.", QuestionsTest::solutionsMeetTheTarget);
        doc.test("Promise 14", "-1 if t is not good", QuestionsTest::solutionsRefuseTables);
        doc.test("Promise 14", "-2 if p is not in 1 .. 6.", QuestionsTest::solutionsRefuseP);
    }

    private static void solutionsAreOfNumbersBelowP() {
        for (int n = 1; n <= 4; n++) {
            for (int p = 1; p <= 6; p++) {
                long all = 1;
                for (int j = 0; j < n; j++) {
                    all *= p;
                }
                SmithForms x = new SmithForms(2, n);
                checks.due("solutions of nothing but 0, p " + p + ", " + n + " columns", x.solutions(1, p), all);
                x.set(0, 0, 1);
                checks.due("solutions with x0 at 0, p " + p, x.solutions(0, p), all / p);
                x.aim(0, p - 1);
                checks.due("solutions with x0 at p - 1, p " + p, x.solutions(0, p), all / p);
                x.set(0, 0, 12);
                x.aim(0, 0);
                checks.due("solutions of 12 x0, p " + p, x.solutions(0, p), p == 5 ? all / 5 : all);
            }
        }
    }

    private static void solutionsHoldInEveryRow() {
        for (int m = 1; m <= 4; m++) {
            for (int row = 0; row < m; row++) {
                SmithForms x = new SmithForms(m, 2);
                x.aim(row, 1);
                checks.due("solutions where only row " + row + " can't hold", x.solutions(0, 3), 0);
                x.set(0, 4 * row, 2);
                checks.due("solutions where only row " + row + " bounds", x.solutions(0, 3), 3);
            }
        }
        SmithForms sum = with(row(1, 0), row(0, 1), row(1, 1));
        Tables.aim(sum, 1, 2, 3);
        checks.due("solutions where the rows agree", sum.solutions(0, 4), 1);
        sum.aim(2, 0);
        checks.due("solutions where they don't by 4", sum.solutions(0, 4), 0);
        checks.due("solutions where they do by 3", sum.solutions(0, 3), 1);
    }

    private static void solutionsTakeEveryColumn() {
        for (int n = 1; n <= 4; n++) {
            for (int column = 0; column < n; column++) {
                SmithForms x = new SmithForms(1, n);
                x.set(1, column, -12);
                x.aim(0, 3);
                int free = 1;
                for (int j = 1; j < n; j++) {
                    free *= 5;
                }
                checks.due("solutions of -12 in column " + column + " of " + n, x.solutions(1, 5), free);
                checks.due("the same by 6", x.solutions(1, 6), 0);
            }
        }
        checks.due("solutions of x0 + x1 + x2 + x3 by 2", with(row(1, 1, 1, 1)).solutions(0, 2), 8);
        checks.due("solutions of 2 x0 + 3 x1 by 6", with(row(2, 3)).solutions(0, 6), 6);
        checks.due("solutions of 4 x0 - 2 x1 by 6", with(row(4, -2)).solutions(0, 6), 12);
    }

    private static void solutionsMeetTheTarget() {
        for (int p = 1; p <= 6; p++) {
            for (int value = -200; value <= 200; value++) {
                SmithForms x = new SmithForms(1, 1);
                x.aim(0, value);
                String aimed = " at " + value + " by " + p;
                checks.due("solutions of 0 x0" + aimed, x.solutions(0, p), value % p == 0 ? p : 0);
                x.set(0, 0, -1);
                checks.due("solutions of -x0" + aimed, x.solutions(0, p), 1);
                x.set(0, 0, 2);
                int due = p % 2 == 1 ? 1 : value % 2 == 0 ? 2 : 0;
                checks.due("solutions of 2 x0" + aimed, x.solutions(0, p), due);
            }
        }
    }

    private static void solutionsRefuseTables() {
        for (int p = 1; p <= 6; p++) {
            int good = p;
            refusedForTables("solutions by " + p, t -> ordinary().solutions(t, good));
        }
    }

    private static void solutionsRefuseP() {
        for (int n = 1; n <= 4; n++) {
            SmithForms x = new SmithForms(1, n);
            refusedOutside(1, 6, "solutions(0, ..) of " + n + " columns, p", p -> x.solutions(0, p));
            refusedOutside(1, 6, "solutions(1, ..) of " + n + " columns, p", p -> x.solutions(1, p));
            checks.due("solutions(0, 1), the least p", x.solutions(0, 1), 1);
            checks.due("solutions(1, 6), the greatest p", x.solutions(1, 6), (long) Math.pow(6, n));
        }
    }

    // ---- promise 15: within

    private static void promise15() {
        doc.test("Promise 15", "1 if every combination of the columns of table t is also a combination of the columns"
                + " of the other table", QuestionsTest::within);
        doc.test("Promise 15", "otherwise 0", QuestionsTest::withinNot);
        doc.test("Promise 15", "-1 if t is not good.", () -> refusedForTables("within", ordinary()::within));
    }

    private static SmithForms twoTables(int[][] first, int[][] second) {
        SmithForms x = with(first);
        Tables.put(x, 1, second);
        return x;
    }

    private static int[][] rows(int[]... rows) {
        return rows;
    }

    private static void within() {
        SmithForms same = twoTables(rows(row(4, 6)), rows(row(2, 0)));
        checks.due("within, the same combinations", same.within(0), 1);
        checks.due("within, the same combinations, turned", same.within(1), 1);
        SmithForms greater = twoTables(rows(row(4, 6)), rows(row(0, 1)));
        checks.due("within the greater", greater.within(0), 1);
        SmithForms nothing = twoTables(rows(row(0, 0)), rows(row(4, 6)));
        checks.due("nothing but 0 is within", nothing.within(0), 1);
        SmithForms empty = new SmithForms(4, 4);
        Tables.aim(empty, 1, 2, 3, 4);
        checks.due("0 within 0, whatever the target is", empty.within(0), 1);
        checks.due("0 within 0, turned", empty.within(1), 1);
        SmithForms all = ordinary();
        checks.due("within all there are", all.within(0), 1);
        all.mirror(1);
        checks.due("within its mirror", all.within(0), 1);
        checks.due("within its mirror, turned", all.within(1), 1);
    }

    private static void withinNot() {
        SmithForms greater = twoTables(rows(row(4, 6)), rows(row(0, 1)));
        checks.due("not within the smaller", greater.within(1), 0);
        SmithForms nothing = twoTables(rows(row(0, 0)), rows(row(4, 6)));
        checks.due("not within nothing but 0", nothing.within(1), 0);
        SmithForms apart = twoTables(rows(row(1, 0), row(0, 0)), rows(row(0, 0), row(0, 1)));
        checks.due("neither within the other, 0", apart.within(0), 0);
        checks.due("neither within the other, 1", apart.within(1), 0);
        checks.due("not within, though of the same rank", ordinary().within(1), 0);
        for (int n = 1; n <= 4; n++) {
            for (int column = 0; column < n; column++) {
                SmithForms one = new SmithForms(2, n);
                one.fill(0, 1, 2, Tables.bent(0, 0));
                one.fill(1, 1, 2, Tables.bent(0, 0));
                one.set(1, 4 + column, 3);
                checks.due("not within for column " + column + " of " + n + " alone", one.within(1), 0);
                checks.due("turned", one.within(0), n == 1 ? 0 : 1);
            }
        }
    }

    // ---- promise 16: classes

    private static void promise16() {
        doc.test("Promise 16", "If the rank is m: how many classes of columns of m whole numbers there are, where two"
                + " columns are in the same class if their difference is a combination of the table's columns",
                QuestionsTest::classesCounted);
        doc.test("Promise 16", "(that is divisor m)", QuestionsTest::classesAreDivisorM);
        doc.test("Promise 16", "0 if the rank is less than m.", QuestionsTest::classesBelowRankM);
        doc.test("Promise 16", "-1 if t is not good.", () -> refusedForTables("classes", ordinary()::classes));
    }

    private static void classesCounted() {
        checks.due("classes by 12", with(row(-12)).classes(0), 12);
        checks.due("classes by 6 and 10", with(row(6, 10)).classes(0), 2);
        checks.due("one class", with(row(1, 0, 5), row(0, 1, 7)).classes(0), 1);
        checks.due("classes with more columns than rows", with(row(4, 0, 2), row(0, 4, 2)).classes(0), 8);
        checks.due("classes where the determinant is negative", with(row(0, 3), row(5, 0)).classes(0), 15);
        checks.due("most classes", Tables.withGreatestMinors().classes(0), 331776);
        checks.due("classes of the other table", ordinary().classes(1), 1);
    }

    private static void classesAreDivisorM() {
        for (int m = 1; m <= 4; m++) {
            for (int n = m; n <= 4; n++) {
                SmithForms x = new SmithForms(m, n);
                long product = 1;
                for (int i = 0; i < m; i++) {
                    x.set(1, 4 * i + n - 1 - i, 3 + i);
                    product *= 3 + i;
                }
                checks.due("classes(1) of " + m + " by " + n, x.classes(1), product);
                checks.due("divisor(1, " + m + ") of " + m + " by " + n, x.divisor(1, m), product);
            }
        }
    }

    private static void classesBelowRankM() {
        checks.due("classes of rank 0", new SmithForms(1, 1).classes(0), 0);
        checks.due("classes of rank 1 of 2", with(row(1, 0), row(0, 0)).classes(0), 0);
        checks.due("classes of rank 3 of 4",
                with(row(1, 0, 0, 1), row(0, 1, 0, 1), row(0, 0, 1, 1), row(1, 1, 1, 3)).classes(0), 0);
        for (int m = 2; m <= 4; m++) {
            for (int n = 1; n < m; n++) {
                SmithForms x = new SmithForms(m, n);
                Tables.putEverywhere(x, m, n);
                checks.due("classes(0) with more rows than columns", x.classes(0), 0);
                checks.due("classes(1) with more rows than columns", x.classes(1), 0);
            }
        }
    }

    // ---- promise 17: determinant

    private static void promise17() {
        doc.test("Promise 17", "The determinant of a table", QuestionsTest::determinantOfATable);
        doc.test("Promise 17", "0 if m and n are different", QuestionsTest::determinantOfDifferentSides);
        doc.test("Promise 17", "or t is not good.", QuestionsTest::determinantOfWrongTables);
    }

    private static void determinantOfATable() {
        checks.due("determinant of one", with(row(-7)).determinant(0), -7);
        checks.due("determinant of two", with(row(1, 2), row(3, 4)).determinant(0), -2);
        checks.due("determinant of two, rows changed", with(row(3, 4), row(1, 2)).determinant(0), 2);
        checks.due("determinant of three", ordinary().determinant(0), 480);
        checks.due("determinant of the other table", ordinary().determinant(1), 1);
        checks.due("determinant of three in a round", with(row(0, 1, 0), row(0, 0, 1), row(1, 0, 0)).determinant(0), 1);
        checks.due("determinant of four in a round",
                with(row(0, 1, 0, 0), row(0, 0, 1, 0), row(0, 0, 0, 1), row(1, 0, 0, 0)).determinant(0), -1);
        checks.due("determinant of rank 1", with(row(1, 2), row(2, 4)).determinant(0), 0);
        for (int size = 1; size <= 4; size++) {
            checks.due("determinant of nothing but 0", new SmithForms(size, size).determinant(1), 0);
        }
    }

    private static void determinantOfDifferentSides() {
        for (int m = 1; m <= 4; m++) {
            for (int n = 1; n <= 4; n++) {
                SmithForms x = new SmithForms(m, n);
                for (int i = 0; i < Math.min(m, n); i++) {
                    x.set(0, 5 * i, 1);
                    x.set(1, 5 * i, 1);
                }
                checks.due("determinant(0), " + m + " by " + n, x.determinant(0), m == n ? 1 : 0);
                checks.due("determinant(1), " + m + " by " + n, x.determinant(1), m == n ? 1 : 0);
            }
        }
    }

    private static void determinantOfWrongTables() {
        for (int t : Tables.WRONG_TABLES) {
            checks.due("determinant(" + t + ")", ordinary().determinant(t), 0);
            checks.due("determinant(" + t + ") of 1 by 4", new SmithForms(1, 4).determinant(t), 0);
        }
    }
}
