import java.lang.reflect.InvocationTargetException;
import java.lang.reflect.Method;
import java.lang.reflect.Modifier;
import java.util.Arrays;

/**
 * LANGUAGE.md, rule 7: no call may ever throw or fail to end, for any arguments in any state. The answers are the
 * other tests' matter; an object here is called far more than 512 times, which rule 7 doesn't leave out.
 */
public final class AnyArgumentsTest {
    private static final int[] NUMBERS = {Integer.MIN_VALUE, Integer.MIN_VALUE + 1, -(1 << 30), -201, -200, -33, -13,
        -12, -5, -1, 0, 1, 2, 3, 4, 5, 6, 7, 12, 15, 16, 200, 396, 1 << 28, 1 << 30, Integer.MAX_VALUE};

    /** Each method alone comes to more calls than an object is promised to answer. */
    private static final long LEAST_CALLS = 1000;

    private static final Checks checks = new Checks();

    public static void main(String[] args) throws IllegalAccessException {
        for (int rows = 1; rows <= 4; rows++) {
            for (int columns = 1; columns <= 4; columns++) {
                callAll(new SmithForms(rows, columns));
                callAll(filledEverywhere(rows, columns));
            }
        }
        for (int rows : NUMBERS) {
            for (int columns : NUMBERS) {
                SmithForms x = new SmithForms(rows, columns);
                checks.holds("new(" + rows + ", " + columns + ") can be asked", x.rows() > 0 && x.columns() > 0);
            }
        }
        checks.end();
    }

    private static SmithForms filledEverywhere(int rows, int columns) {
        SmithForms x = new SmithForms(rows, columns);
        Tables.putEverywhere(x, rows, columns);
        for (int row = 0; row < rows; row++) {
            x.aim(row, 200 - 57 * row);
        }
        return x;
    }

    private static void callAll(SmithForms x) throws IllegalAccessException {
        checks.begin(x.rows() + " by " + x.columns());
        for (Method method : SmithForms.class.getDeclaredMethods()) {
            if (Modifier.isPublic(method.getModifiers())) {
                callWithAll(x, method);
            }
        }
    }

    private static void callWithAll(SmithForms x, Method method) throws IllegalAccessException {
        Object[] arguments = new Object[method.getParameterCount()];
        long choices = 1;
        for (int i = 0; i < arguments.length; i++) {
            choices *= NUMBERS.length;
        }
        long calls = Math.max(choices, LEAST_CALLS);
        long answered = 0;
        for (long choice = 0; choice < calls; choice++) {
            long rest = choice;
            for (int i = 0; i < arguments.length; i++) {
                arguments[i] = NUMBERS[(int) (rest % NUMBERS.length)];
                rest /= NUMBERS.length;
            }
            try {
                method.invoke(x, arguments);
                answered++;
            } catch (InvocationTargetException e) {
                checks.holds(method.getName() + Arrays.toString(arguments) + " answers, no " + e.getCause(), false);
            }
        }
        checks.due("calls of " + method.getName() + " that answered", answered, calls);
    }
}
