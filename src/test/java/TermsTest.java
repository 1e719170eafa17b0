import java.util.ArrayList;
import java.util.Arrays;
import java.util.LinkedHashMap;
import java.util.List;
import java.util.Map;

/** The sections 'What it is' and 'Terms', sentence by sentence: what holds for all promises alike. */
public final class TermsTest {
    private static final String WHAT_IT_IS = "What it is";
    private static final String TERMS = "Terms";
    private static final int CALLS = 512;

    private static final Checks checks = new Checks();
    private static final Sentences doc = new Sentences(checks);

    private interface Call {
        long on(SmithForms x);
    }

    public static void main(String[] args) {
        whatItIs();
        tablesAndCombinations();
        minorsAndWhatIsMadeOfThem();
        whatHoldsForAllMethods();
        doc.nothingLeftOf(WHAT_IT_IS);
        doc.nothingLeftOf(TERMS);
        checks.end();
    }

    private static void whatItIs() {
        doc.test(WHAT_IT_IS, "Tables of whole numbers: ranks, common divisors of minors, and which whole-numbered"
                + " combinations of columns there are.", TermsTest::oneTableAskedForEach);
        doc.test(WHAT_IT_IS, "An object is used for at most 512 calls after it has been made",
                TermsTest::theLastCallCounts);
        doc.test(WHAT_IT_IS, "what later calls answer is free.", TermsTest::laterCallsAreTheObjectsOwn);
    }

    private static void tablesAndCombinations() {
        doc.test(TERMS, "There are two TABLES, 0 and 1, each with m ROWS, 0 .. m-1, and n COLUMNS, 0 .. n-1,",
                TermsTest::twoTablesOfTheirOwn);
        doc.test(TERMS, "n COLUMNS, 0 .. n-1, of whole numbers, all 0 at first", TermsTest::tablesAre0AtFirst);
        doc.test(TERMS, "and a TARGET, a column of m whole numbers, all 0 at first.", TermsTest::targetIs0AtFirst);
        doc.test(TERMS, "A COMBINATION of a table's columns is a sum of whole-numbered multiples of them (a column of"
                + " m numbers).", TermsTest::combinations);
    }

    private static void minorsAndWhatIsMadeOfThem() {
        doc.test(TERMS, "A MINOR of size k of a table (k >= 1) is the determinant of the k rows and k columns that are"
                + " left when all others are taken away (for some choice of k rows and k columns).",
                TermsTest::everyChoiceIsAMinor);
        doc.test(TERMS, "THE DIVISOR k of a table is the greatest common divisor of all its minors of size k",
                TermsTest::divisorIsTheGreatest);
        doc.test(TERMS, "0 if all of them are 0", TermsTest::divisorWhereAllMinorsAre0);
        doc.test(TERMS, "or there are none", TermsTest::divisorWhereThereAreNoMinors);
        doc.test(TERMS, "divisor 0 is 1.", TermsTest::divisor0);
        doc.test(TERMS, "THE RANK is the greatest k such that divisor k is not 0.", TermsTest::rankIsTheGreatest);
        doc.test(TERMS, "For k from 1 to the rank, FACTOR k is divisor k divided by divisor k - 1",
                TermsTest::factorUpToTheRank);
        doc.test(TERMS, "(it always goes out even, and factor k divides factor k + 1)", TermsTest::factorsDivide);
        doc.test(TERMS, "for greater k it is 0.", TermsTest::factorAboveTheRank);
    }

    private static void whatHoldsForAllMethods() {
        doc.test(TERMS, "No question changes anything.", TermsTest::noQuestionChangesAnything);
        doc.test(TERMS, "A refused call changes nothing.", TermsTest::noRefusedCallChangesAnything);
        doc.test(TERMS, "In every method the tests are made in the order named", TermsTest::testsInOrder);
        doc.test(TERMS, "a table is good if it is 0 or 1", TermsTest::goodTables);
        doc.test(TERMS, "a row if it is 0 .. m-1", TermsTest::goodRows);
        doc.test(TERMS, "a column if it is 0 .. n-1.", TermsTest::goodColumns);
        doc.test(TERMS, "All numbers that are answered fit into a long.", TermsTest::greatestNumbers);
    }

    // ---- what it is, and the bound on calls

    private static void oneTableAskedForEach() {
        SmithForms x = Tables.with(Tables.row(2, 4, 6), Tables.row(0, 3, 3));
        checks.due("rank(0)", x.rank(0), 2);
        checks.due("divisor(0, 1)", x.divisor(0, 1), 1);
        checks.due("divisor(0, 2)", x.divisor(0, 2), 6);
        reachedDue(x, 1, 2, -3);
        reachedDue(x, 0, 1, 3);
        reachedDue(x, 0, 2, 1);
    }

    private static void theLastCallCounts() {
        Map<String, Call> lasts = new LinkedHashMap<>(questions(1));
        lasts.putAll(changes());
        for (Map.Entry<String, Call> last : lasts.entrySet()) {
            SmithForms early = tellingObject();
            SmithForms late = tellingObject();
            for (int call = callsOfTellingObject(); call < CALLS - 1; call++) {
                late.multiple(call % 2);
            }
            long due = last.getValue().on(early);
            checks.due("as call 512, " + last.getKey(), last.getValue().on(late), due);
        }
        SmithForms busy = new SmithForms(1, 1);
        for (int call = 1; call < CALLS; call += 2) {
            int value = call % 25 - 12;
            checks.due("as call " + call + ", set(0, 0, " + value + ")", busy.set(0, 0, value), 0);
            checks.due("as call " + (call + 1) + ", get(0, 0, 0)", busy.get(0, 0, 0), value);
        }
    }

    /** Free is what the calls answer, not what other objects do; that no call throws is AnyArgumentsTest's matter. */
    private static void laterCallsAreTheObjectsOwn() {
        SmithForms before = tellingObject();
        SmithForms old = tellingObject();
        for (int call = callsOfTellingObject(); call < 3 * CALLS; call++) {
            old.set(call % 2, call % 16, call % 12);
            old.aim(call % 3, call % 200);
            old.mirror(call % 2);
            old.multiple(call % 2);
        }
        List<Long> due = allSeenOf(tellingObject());
        checks.holds("an object made before is as it was", allSeenOf(before).equals(due));
        checks.due("reaches(0) of a new object", tellingObject().reaches(0), 1);
        checks.due("multiple(1) of a new object", tellingObject().multiple(1), 80);
    }

    // ---- tables, target, combinations

    private static void twoTablesOfTheirOwn() {
        for (int m = 1; m <= 4; m++) {
            for (int n = 1; n <= 4; n++) {
                for (int t = 0; t <= 1; t++) {
                    SmithForms x = new SmithForms(m, n);
                    int[] want = new int[32];
                    for (int cell = 0; cell < m * n; cell++) {
                        int at = 4 * (cell / n) + cell % n;
                        want[16 * t + at] = cell - 12;
                        checks.due("set(" + t + ", " + at + ", ..)", x.set(t, at, cell - 12), 0);
                    }
                    Tables.cellsDue(checks, "only table " + t + " of " + m + " by " + n + " is set", x, want);
                    checks.due("rank of the other table", x.rank(1 - t), 0);
                }
            }
        }
    }

    private static void tablesAre0AtFirst() {
        for (int m = 1; m <= 4; m++) {
            for (int n = 1; n <= 4; n++) {
                SmithForms x = new SmithForms(m, n);
                Tables.cellsDue(checks, "new(" + m + ", " + n + ")", x, new int[32]);
                for (int t = 0; t <= 1; t++) {
                    checks.due("rank(" + t + ") of a new object", x.rank(t), 0);
                    checks.due("divisor(" + t + ", 1) of a new object", x.divisor(t, 1), 0);
                    checks.due("within(" + t + ") of a new object", x.within(t), 1);
                    checks.due("classes(" + t + ") of a new object", x.classes(t), 0);
                }
            }
        }
    }

    private static void targetIs0AtFirst() {
        for (int m = 1; m <= 4; m++) {
            for (int n = 1; n <= 4; n++) {
                SmithForms x = new SmithForms(m, n);
                int all = 1;
                for (int j = 0; j < n; j++) {
                    all *= 6;
                }
                for (int t = 0; t <= 1; t++) {
                    checks.due("reaches(" + t + ") of a new object", x.reaches(t), 1);
                    checks.due("multiple(" + t + ") of a new object", x.multiple(t), 1);
                    checks.due("solutions(" + t + ", 6) of a new object", x.solutions(t, 6), all);
                }
            }
        }
    }

    private static void combinations() {
        SmithForms x = Tables.with(Tables.row(2, 3), Tables.row(4, 5), Tables.row(1, 0));
        reachedDue(x, 1, 0, 0, 0);
        reachedDue(x, 1, 2, 4, 1);
        reachedDue(x, 1, -2, -4, -1);
        reachedDue(x, 1, 3, 5, 0);
        reachedDue(x, 1, 2 * 7 - 3 * 9, 4 * 7 - 5 * 9, 7);
        reachedDue(x, 0, 1, 2, 0);
        reachedDue(x, 0, 2, 4, 0);
        reachedDue(x, 0, 2, 5, 1);
        reachedDue(x, 0, 3, 4, 1);
        SmithForms half = Tables.with(Tables.row(1, 1), Tables.row(1, -1));
        reachedDue(half, 0, 1, 0);
        reachedDue(half, 0, 0, 1);
        reachedDue(half, 1, 2, 0);
        reachedDue(half, 1, 199, -199);
        reachedDue(new SmithForms(2, 4), 1, 0, 0);
        reachedDue(new SmithForms(2, 4), 0, 0, 1);
    }

    private static void reachedDue(SmithForms x, int due, int... target) {
        Tables.aim(x, target);
        checks.due("reaches(0) of " + Arrays.toString(target), x.reaches(0), due);
    }

    // ---- minors, divisors, rank, factors

    /** A table with numbers in one choice of rows and columns alone shows whether that choice counts. */
    private static void everyChoiceIsAMinor() {
        for (int m = 1; m <= 4; m++) {
            for (int n = 1; n <= 4; n++) {
                for (int rowSet = 1; rowSet < 1 << m; rowSet++) {
                    for (int columnSet = 1; columnSet < 1 << n; columnSet++) {
                        if (Integer.bitCount(rowSet) == Integer.bitCount(columnSet)) {
                            choiceDue(m, n, rowSet, columnSet);
                        }
                    }
                }
            }
        }
        checks.due("a minor of size 1 is the number itself", Tables.with(Tables.row(-11)).divisor(0, 1), 11);
        SmithForms two = Tables.with(Tables.row(1, 2), Tables.row(3, 4));
        checks.due("the one minor of size 2 of 2 by 2", two.divisor(0, 2), 2);
        SmithForms three = Tables.with(Tables.row(1, 2, 3), Tables.row(4, 5, 6), Tables.row(7, 8, 12));
        checks.due("the one minor of size 3 of 3 by 3", three.divisor(0, 3), 9);
        SmithForms four = Tables.with(Tables.row(1, 1, 1, 1), Tables.row(1, 2, 3, 4), Tables.row(1, 4, 9, 12),
                Tables.row(1, 8, 1, 10));
        checks.due("the one minor of size 4 of 4 by 4", four.divisor(0, 4), 4);
    }

    private static void choiceDue(int m, int n, int rowSet, int columnSet) {
        int[] primes = {2, 3, 5, 7};
        SmithForms x = new SmithForms(m, n);
        int size = 0;
        long product = 1;
        int columnsLeft = columnSet;
        for (int row = 0; row < m; row++) {
            if ((rowSet >> row & 1) == 1) {
                x.set(1, 4 * row + Integer.numberOfTrailingZeros(columnsLeft), primes[size]);
                columnsLeft &= columnsLeft - 1;
                product *= primes[size++];
            }
        }
        String choice = " of rows " + Integer.toBinaryString(rowSet) + ", columns " + Integer.toBinaryString(columnSet);
        checks.due("divisor " + size + choice, x.divisor(1, size), product);
        checks.due("rank" + choice, x.rank(1), size);
        if (size < 4) {
            checks.due("divisor " + (size + 1) + choice, x.divisor(1, size + 1), 0);
        }
        checks.due("determinant" + choice, x.determinant(1), size == m && m == n ? product : 0);
    }

    private static void divisorIsTheGreatest() {
        SmithForms x = new SmithForms(4, 4);
        long[] due = {12, 6, 2, 1};
        int[] added = {12, -6, 10, 9};
        for (int i = 0; i < 4; i++) {
            x.set(0, 5 * (3 - i), added[i]);
            checks.due("divisor 1 with " + (i + 1) + " numbers", x.divisor(0, 1), due[i]);
        }
        SmithForms wide = Tables.with(Tables.row(2, 0, 0), Tables.row(0, 6, 0));
        checks.due("divisor 2 of one minor that is not 0", wide.divisor(0, 2), 12);
        wide.set(0, 6, 3);
        checks.due("divisor 2 of two minors", wide.divisor(0, 2), 6);
        SmithForms high = Tables.with(Tables.row(4, 0), Tables.row(0, -5), Tables.row(0, 10));
        checks.due("divisor 2, one minor divides the other", high.divisor(0, 2), 20);
        checks.due("a divisor is not negative", Tables.with(Tables.row(-7)).divisor(0, 1), 7);
        checks.due("nor is one of size 2", Tables.with(Tables.row(0, 3), Tables.row(5, 0)).divisor(0, 2), 15);
    }

    private static void divisorWhereAllMinorsAre0() {
        for (int k = 1; k <= 4; k++) {
            checks.due("divisor " + k + " of nothing but 0", new SmithForms(4, 4).divisor(1, k), 0);
        }
        SmithForms equal = Tables.with(Tables.row(3, 3, 3), Tables.row(3, 3, 3), Tables.row(-3, -3, -3));
        checks.due("divisor 1 of rank 1", equal.divisor(0, 1), 3);
        checks.due("divisor 2 of rank 1", equal.divisor(0, 2), 0);
        checks.due("divisor 3 of rank 1", equal.divisor(0, 3), 0);
        SmithForms sum = Tables.with(Tables.row(1, 0, 0, 1), Tables.row(0, 1, 0, 1), Tables.row(0, 0, 1, 1),
                Tables.row(1, 1, 1, 3));
        checks.due("divisor 3 where the last row is the sum", sum.divisor(0, 3), 1);
        checks.due("divisor 4 where the last row is the sum", sum.divisor(0, 4), 0);
    }

    private static void divisorWhereThereAreNoMinors() {
        for (int m = 1; m <= 4; m++) {
            for (int n = 1; n <= 4; n++) {
                SmithForms x = new SmithForms(m, n);
                Tables.putEverywhere(x, m, n);
                for (int k = Math.min(m, n) + 1; k <= 4; k++) {
                    checks.due("divisor(0, " + k + ") of " + m + " by " + n, x.divisor(0, k), 0);
                    checks.due("divisor(1, " + k + ") of " + m + " by " + n, x.divisor(1, k), 0);
                }
                checks.due("divisor(0, 1) of " + m + " by " + n, x.divisor(0, 1), 1);
            }
        }
    }

    private static void divisor0() {
        for (int m = 1; m <= 4; m++) {
            for (int n = 1; n <= 4; n++) {
                SmithForms x = new SmithForms(m, n);
                checks.due("divisor(0, 0) of nothing but 0", x.divisor(0, 0), 1);
                x.set(1, 0, 12);
                checks.due("divisor(1, 0) of a table with a 12", x.divisor(1, 0), 1);
            }
        }
        checks.due("divisor 0 of the greatest numbers", Tables.withGreatestMinors().divisor(0, 0), 1);
    }

    private static void rankIsTheGreatest() {
        for (int m = 1; m <= 4; m++) {
            for (int n = 1; n <= 4; n++) {
                SmithForms x = new SmithForms(m, n);
                checks.due("rank of nothing but 0", x.rank(1), 0);
                for (int i = 0; i < Math.min(m, n); i++) {
                    x.set(1, 4 * (m - 1 - i) + i, 12);
                    checks.due("rank with " + (i + 1) + " apart, " + m + " by " + n, x.rank(1), i + 1);
                }
                checks.due("rank of the other table", x.rank(0), 0);
            }
        }
        for (SmithForms x : someObjects()) {
            int greatest = 0;
            for (int k = 0; k <= 4; k++) {
                greatest = x.divisor(0, k) != 0 ? k : greatest;
            }
            checks.due("rank(0), by the divisors", x.rank(0), greatest);
        }
    }

    private static void factorUpToTheRank() {
        SmithForms x = Tables.with(Tables.row(2, 4, 4), Tables.row(-6, 6, 12), Tables.row(10, 4, 12));
        checks.due("factor 1, which is divisor 1", x.factor(0, 1), 2);
        checks.due("factor 2", x.factor(0, 2), 2);
        checks.due("factor 3, at the rank", x.factor(0, 3), 120);
        SmithForms greatest = Tables.withGreatestMinors();
        long[] due = {12, 24, 24, 48};
        for (int k = 1; k <= 4; k++) {
            checks.due("factor " + k + " of the greatest numbers", greatest.factor(0, k), due[k - 1]);
        }
    }

    private static void factorsDivide() {
        for (SmithForms x : someObjects()) {
            for (int k = 1; k <= x.rank(0); k++) {
                checks.due("divisor " + (k - 1) + " times factor " + k, x.divisor(0, k - 1) * x.factor(0, k),
                        x.divisor(0, k));
                checks.holds("factor " + k + " is above 0", x.factor(0, k) > 0);
                if (k < x.rank(0)) {
                    checks.due("what is left of factor " + (k + 1), x.factor(0, k + 1) % x.factor(0, k), 0);
                }
            }
        }
    }

    private static void factorAboveTheRank() {
        for (int rank = 0; rank <= 4; rank++) {
            SmithForms x = new SmithForms(4, 4);
            for (int i = 0; i < rank; i++) {
                x.set(0, 5 * i, 6);
            }
            for (int k = 1; k <= 4; k++) {
                checks.due("factor " + k + " of rank " + rank, x.factor(0, k), k <= rank ? 6 : 0);
            }
        }
        for (SmithForms x : someObjects()) {
            for (int k = x.rank(0) + 1; k <= 4; k++) {
                checks.due("factor " + k + " above the rank", x.factor(0, k), 0);
            }
        }
    }

    /** Tables of all sizes, from those whose numbers have nothing in common to those of nothing but 0, 12 and -12. */
    private static List<SmithForms> someObjects() {
        List<SmithForms> objects = new ArrayList<>();
        for (int number = 0; number < 480; number++) {
            int scale = new int[] {1, 2, 3, 4, 6, 12}[number / 16 % 6];
            int reach = 12 / scale;
            SmithForms x = new SmithForms(1 + number % 4, 1 + number / 4 % 4);
            for (int at = 0; at < 16; at++) {
                x.set(0, at, scale * ((number * (3 * at + 1) + at * at) % (2 * reach + 1) - reach));
            }
            if (scale == 1) {
                x.fill(0, number % 3, number % 5 - 2, Tables.bent(number % 7 - 3, number % 2));
            }
            objects.add(x);
        }
        return objects;
    }

    // ---- what holds for all methods

    /** All calls that only ask, with good arguments and wrong ones. */
    private static Map<String, Call> questions(int t) {
        Map<String, Call> calls = new LinkedHashMap<>(questionsOfTable(t));
        calls.put("rows()", x -> x.rows());
        calls.put("columns()", x -> x.columns());
        for (int k = -1; k <= 7; k++) {
            int number = k;
            calls.put("divisor(" + t + ", " + k + ")", x -> x.divisor(t, number));
            calls.put("factor(" + t + ", " + k + ")", x -> x.factor(t, number));
            calls.put("solutions(" + t + ", " + k + ")", x -> x.solutions(t, number));
            calls.put("get(" + t + ", " + k + ", 1)", x -> x.get(t, number, 1));
            calls.put("get(" + t + ", 1, " + k + ")", x -> x.get(t, 1, number));
        }
        return calls;
    }

    /** One call of every question that takes a table, none of them wrong by its other arguments. */
    private static Map<String, Call> questionsOfTable(int t) {
        Map<String, Call> calls = new LinkedHashMap<>();
        calls.put("get(" + t + ", 0, 0)", x -> x.get(t, 0, 0));
        calls.put("rank(" + t + ")", x -> x.rank(t));
        calls.put("divisor(" + t + ", 1)", x -> x.divisor(t, 1));
        calls.put("factor(" + t + ", 1)", x -> x.factor(t, 1));
        calls.put("reaches(" + t + ")", x -> x.reaches(t));
        calls.put("multiple(" + t + ")", x -> x.multiple(t));
        calls.put("solutions(" + t + ", 2)", x -> x.solutions(t, 2));
        calls.put("within(" + t + ")", x -> x.within(t));
        calls.put("classes(" + t + ")", x -> x.classes(t));
        calls.put("determinant(" + t + ")", x -> x.determinant(t));
        return calls;
    }

    private static Map<String, Call> changes() {
        Map<String, Call> calls = new LinkedHashMap<>();
        calls.put("set(1, 10, -12)", x -> x.set(1, 10, -12));
        calls.put("fill(0, 2, 3, level)", x -> x.fill(0, 2, 3, Tables.bent(0, 0)));
        calls.put("aim(2, -200)", x -> x.aim(2, -200));
        calls.put("mirror(0)", x -> x.mirror(0));
        calls.put("mirror(1)", x -> x.mirror(1));
        return calls;
    }

    private static Map<String, Call> refusedCalls() {
        Map<String, Call> calls = new LinkedHashMap<>();
        for (int t : Tables.WRONG_TABLES) {
            calls.put("set(" + t + ", 0, 1)", x -> x.set(t, 0, 1));
            calls.put("fill(" + t + ", 0, 1, level)", x -> x.fill(t, 0, 1, Tables.bent(0, 0)));
            calls.put("mirror(" + t + ")", x -> x.mirror(t));
        }
        for (int t = 0; t <= 1; t++) {
            int table = t;
            for (int at : new int[] {-1, 3, 7, 11, 12, 16}) {
                calls.put("set(" + t + ", " + at + ", 1)", x -> x.set(table, at, 1));
            }
            for (int value : new int[] {-13, 13}) {
                calls.put("set(" + t + ", 0, " + value + ")", x -> x.set(table, 0, value));
                calls.put("fill(" + t + ", 0, " + value + ", level)",
                        x -> x.fill(table, 0, value, Tables.bent(0, 0)));
            }
            for (int row : new int[] {-1, 3, 4}) {
                calls.put("fill(" + t + ", " + row + ", 1, level)", x -> x.fill(table, row, 1, Tables.bent(0, 0)));
            }
            calls.put("fill(" + t + ", 1, 1, -1)", x -> x.fill(table, 1, 1, -1));
            calls.put("fill(" + t + ", 1, 11, rising)", x -> x.fill(table, 1, 11, Tables.bent(1, 0)));
        }
        for (int row : new int[] {-1, 3, 4}) {
            calls.put("aim(" + row + ", 1)", x -> x.aim(row, 1));
        }
        for (int value : new int[] {-201, 201}) {
            calls.put("aim(0, " + value + ")", x -> x.aim(0, value));
            calls.put("aim(2, " + value + ")", x -> x.aim(2, value));
        }
        return calls;
    }

    /**
     * Table 0 has the target as its one column that is not 0, so that a target that has changed is not reached;
     * table 1 has determinant 80, so that a target that has become 0 or a multiple tells by its own multiple.
     */
    private static SmithForms tellingObject() {
        SmithForms x = new SmithForms(3, 3);
        Tables.put(x, 0, Tables.row(0, 7, 0), Tables.row(0, -4, 0), Tables.row(0, 9, 0));
        Tables.put(x, 1, Tables.row(5, 1, 0), Tables.row(-1, 3, 0), Tables.row(2, 3, 5));
        Tables.aim(x, 7, -4, 9);
        return x;
    }

    private static int callsOfTellingObject() {
        return 9 + 9 + 3;
    }

    /** First what tells the most by one call, so that a question that changes something can't hide it here too. */
    private static List<Long> allSeenOf(SmithForms x) {
        List<Long> seen = new ArrayList<>();
        for (int cell = 0; cell < 18; cell++) {
            seen.add((long) x.get(cell / 9, cell % 9 / 3, cell % 3));
        }
        seen.add((long) x.reaches(0));
        seen.add((long) x.multiple(1));
        for (int t = 0; t <= 1; t++) {
            for (Call question : questions(t).values()) {
                seen.add(question.on(x));
            }
        }
        return seen;
    }

    private static void noQuestionChangesAnything() {
        SmithForms telling = tellingObject();
        checks.due("reaches(0) of the telling object", telling.reaches(0), 1);
        checks.due("multiple(1) of the telling object", telling.multiple(1), 80);
        List<Long> due = allSeenOf(tellingObject());
        for (int t = -1; t <= 2; t++) {
            for (Map.Entry<String, Call> question : questions(t).entrySet()) {
                SmithForms x = tellingObject();
                long first = question.getValue().on(x);
                checks.due(question.getKey() + " the second time", question.getValue().on(x), first);
                checks.holds("all is seen as before after " + question.getKey(), allSeenOf(x).equals(due));
            }
        }
    }

    private static void noRefusedCallChangesAnything() {
        List<Long> due = allSeenOf(tellingObject());
        for (Map.Entry<String, Call> refused : refusedCalls().entrySet()) {
            SmithForms x = tellingObject();
            checks.holds(refused.getKey() + " is refused", refused.getValue().on(x) < 0);
            checks.holds("all is seen as before after " + refused.getKey(), allSeenOf(x).equals(due));
        }
    }

    private static void testsInOrder() {
        SmithForms x = new SmithForms(2, 3);
        checks.due("set, all wrong", x.set(2, 16, 13), -1);
        checks.due("set, table and place wrong", x.set(-1, 3, 12), -1);
        checks.due("set, table and value wrong", x.set(2, 0, -13), -1);
        checks.due("set, place and value wrong", x.set(1, 3, 13), -2);
        checks.due("fill, all wrong", x.fill(2, 2, 13, -1), -1);
        checks.due("fill, table and row wrong", x.fill(2, -1, 0, Tables.bent(0, 0)), -1);
        checks.due("fill, table and start wrong", x.fill(-1, 0, 13, Tables.bent(0, 0)), -1);
        checks.due("fill, table and bent wrong", x.fill(-1, 0, 0, -1), -1);
        checks.due("fill, table and numbers wrong", x.fill(2, 0, 12, Tables.bent(1, 0)), -1);
        checks.due("fill, row and start wrong", x.fill(0, 2, 13, Tables.bent(0, 0)), -2);
        checks.due("fill, row and bent wrong", x.fill(1, -1, 0, 800), -2);
        checks.due("fill, row and numbers wrong", x.fill(1, 2, 12, Tables.bent(1, 0)), -2);
        checks.due("aim, all wrong", x.aim(2, 201), -1);
        checks.due("aim, all wrong", x.aim(-1, -201), -1);
        for (int t : Tables.WRONG_TABLES) {
            checks.due("divisor(" + t + ", -1)", x.divisor(t, -1), -1);
            checks.due("divisor(" + t + ", 5)", x.divisor(t, 5), -1);
            checks.due("factor(" + t + ", 0)", x.factor(t, 0), -1);
            checks.due("factor(" + t + ", 5)", x.factor(t, 5), -1);
            checks.due("solutions(" + t + ", 0)", x.solutions(t, 0), -1);
            checks.due("solutions(" + t + ", 7)", x.solutions(t, 7), -1);
        }
    }

    private static void goodTables() {
        for (int t : new int[] {0, 1}) {
            SmithForms x = new SmithForms(2, 2);
            checks.due("set(" + t + ", 0, 3)", x.set(t, 0, 3), 0);
            checks.due("fill(" + t + ", 1, 2, rising)", x.fill(t, 1, 2, Tables.bent(1, 0)), 0);
            long[] due = {3, 2, 1, 1, 1, 1, 1, 0, 9, 9};
            int next = 0;
            for (Map.Entry<String, Call> question : questionsOfTable(t).entrySet()) {
                checks.due(question.getKey(), question.getValue().on(x), due[next++]);
            }
            checks.due("mirror(" + t + ")", x.mirror(t), 0);
        }
        for (int t : Tables.WRONG_TABLES) {
            SmithForms x = new SmithForms(2, 2);
            Tables.putEverywhere(x, 2, 2);
            for (Map.Entry<String, Call> question : questionsOfTable(t).entrySet()) {
                boolean answers0 = question.getKey().startsWith("get") || question.getKey().startsWith("determinant");
                checks.due(question.getKey(), question.getValue().on(x), answers0 ? 0 : -1);
            }
            checks.due("set(" + t + ", 0, 3)", x.set(t, 0, 3), -1);
            checks.due("fill(" + t + ", 1, 2, level)", x.fill(t, 1, 2, Tables.bent(0, 0)), -1);
            checks.due("mirror(" + t + ")", x.mirror(t), -1);
        }
    }

    private static void goodRows() {
        for (int m = 1; m <= 4; m++) {
            SmithForms x = new SmithForms(m, 4);
            for (int row = -2; row <= 6; row++) {
                boolean good = row >= 0 && row < m;
                String where = row + " of " + m + " rows";
                checks.due("set in row " + where, x.set(0, 4 * row, 5), good ? 0 : -2);
                checks.due("fill of row " + where, x.fill(1, row, 7, Tables.bent(0, 0)), good ? 0 : -2);
                checks.due("aim at row " + where, x.aim(row, 9), good ? 0 : -1);
                checks.due("get from row " + where, x.get(0, row, 0), good ? 5 : 0);
                checks.due("get from row " + where, x.get(1, row, 3), good ? 7 : 0);
            }
        }
    }

    private static void goodColumns() {
        for (int n = 1; n <= 4; n++) {
            SmithForms x = new SmithForms(4, n);
            for (int column = 0; column <= 3; column++) {
                boolean good = column < n;
                String where = column + " of " + n + " columns";
                checks.due("set in column " + where, x.set(0, 8 + column, 5), good ? 0 : -2);
                checks.due("get from column " + where, x.get(0, 2, column), good ? 5 : 0);
            }
            Tables.putEverywhere(x, 4, n);
            for (int column : new int[] {-2, -1, n, n + 1, 4, 5}) {
                checks.due("get(0, 1, " + column + ") of " + n + " columns", x.get(0, 1, column), 0);
                checks.due("get(1, 2, " + column + ") of " + n + " columns", x.get(1, 2, column), 0);
            }
        }
    }

    private static void greatestNumbers() {
        SmithForms x = Tables.withGreatestMinors();
        checks.due("the greatest determinant", x.determinant(0), 331776);
        checks.due("the greatest divisor 4", x.divisor(0, 4), 331776);
        checks.due("divisor 3 beside it", x.divisor(0, 3), 6912);
        checks.due("divisor 2 beside it", x.divisor(0, 2), 288);
        checks.due("divisor 1 beside it", x.divisor(0, 1), 12);
        checks.due("the most classes", x.classes(0), 331776);
        Tables.put(x, 0, Tables.row(12, -12, 12, -12), Tables.row(12, 12, 12, 12));
        checks.due("the least determinant", x.determinant(0), -331776);
        Tables.aim(x, 200, -200, 200, -200);
        checks.due("multiple of a far target", x.multiple(0), 3);
        SmithForms factor = Tables.with(Tables.row(12, 11), Tables.row(-12, 12));
        checks.due("the greatest factor 2 of 2 by 2", factor.factor(0, 2), 276);
    }
}
