import java.util.Map;
import java.util.TreeMap;

/** All promises together, on runs of 512 calls, the most that an object is promised to answer. */
public final class RunsTest {
    private static final int RUNS = 300;
    private static final int CALLS = 512;

    private static final Checks checks = new Checks();
    private static final Thrown thrown = new Thrown(512L);

    /** How often each answer came, so that the runs can be seen to come to the answers that matter. */
    private static final Map<String, Integer> answers = new TreeMap<>();
    private static int call = 0;

    public static void main(String[] args) {
        for (int run = 0; run < RUNS; run++) {
            oneRun(run);
        }
        checks.begin("the runs");
        for (String seldom : new String[] {"fill 0", "fill -3", "rank 0", "rank 3", "rank 4", "reaches 0", "reaches 1",
            "multiple 0", "multiple 1", "multiple 2", "multiple 6", "within 0", "within 1", "classes 0", "classes 1",
            "solutions 0", "solutions 1", "solutions 36", "determinant 0"}) {
            checks.holds("come to the answer " + seldom, answers.getOrDefault(seldom, 0) >= 20);
        }
        checks.end();
    }

    private static void oneRun(int run) {
        int rows = thrown.between(-1, 6);
        int columns = thrown.between(-1, 6);
        SmithForms x = new SmithForms(rows, columns);
        Model model = new Model(rows, columns);
        checks.begin("run " + run + ", new(" + rows + ", " + columns + ")");
        for (call = 1; call <= CALLS; call++) {
            if (thrown.onceIn(2)) {
                change(x, model);
            } else {
                ask(x, model);
            }
        }
    }

    private static void due(String method, String arguments, long got, long want) {
        checks.due("call " + call + ", " + method + arguments, got, want);
        answers.merge(method + " " + want, 1, Integer::sum);
    }

    private static int table() {
        return thrown.onceIn(20) ? thrown.between(-2, 3) : thrown.between(0, 1);
    }

    private static int entry() {
        int reach = thrown.onceIn(10) ? 14 : thrown.onceIn(3) ? 12 : 2;
        return thrown.between(-reach, reach);
    }

    private static void change(SmithForms x, Model model) {
        int t = table();
        int kind = thrown.between(0, 20);
        if (kind < 8) {
            int at = thrown.between(-1, 16);
            int value = thrown.onceIn(3) ? 0 : entry();
            due("set", "(" + t + ", " + at + ", " + value + ")", x.set(t, at, value), model.set(t, at, value));
        } else if (kind < 12) {
            int row = thrown.between(-1, 4);
            int start = entry();
            int bent = thrown.onceIn(8) ? thrown.between(-40, 840)
                    : Tables.bent(thrown.between(-3, 3), thrown.between(-1, 1));
            due("fill", "(" + t + ", " + row + ", " + start + ", " + bent + ")", x.fill(t, row, start, bent),
                    model.fill(t, row, start, bent));
        } else if (kind < 19) {
            int row = thrown.between(-1, 4);
            int value = thrown.onceIn(8) ? thrown.between(-210, 210) : thrown.onceIn(2) ? 0 : entry();
            due("aim", "(" + row + ", " + value + ")", x.aim(row, value), model.aim(row, value));
        } else {
            due("mirror", "(" + t + ")", x.mirror(t), model.mirror(t));
        }
    }

    private static void ask(SmithForms x, Model model) {
        int t = table();
        int k = thrown.between(-1, 7);
        int row = thrown.between(-1, 4);
        int column = thrown.between(-1, 4);
        String ofTable = "(" + t + ")";
        String withNumber = "(" + t + ", " + k + ")";
        switch (thrown.between(0, 11)) {
            case 0 -> due("rows", "()", x.rows(), model.rows());
            case 1 -> due("columns", "()", x.columns(), model.columns());
            case 2 -> due("get", "(" + t + ", " + row + ", " + column + ")", x.get(t, row, column),
                    model.get(t, row, column));
            case 3 -> due("rank", ofTable, x.rank(t), model.rank(t));
            case 4 -> due("divisor", withNumber, x.divisor(t, k), model.divisor(t, k));
            case 5 -> due("factor", withNumber, x.factor(t, k), model.factor(t, k));
            case 6 -> due("reaches", ofTable, x.reaches(t), model.reaches(t));
            case 7 -> due("multiple", ofTable, x.multiple(t), model.multiple(t));
            case 8 -> due("solutions", withNumber, x.solutions(t, k), model.solutions(t, k));
            case 9 -> due("within", ofTable, x.within(t), model.within(t));
            case 10 -> due("classes", ofTable, x.classes(t), model.classes(t));
            default -> due("determinant", ofTable, x.determinant(t), model.determinant(t));
        }
    }
}
