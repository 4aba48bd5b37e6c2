import java.util.concurrent.Callable;
import java.util.function.Supplier;

/** All that an object holds, what shows only later too: to see that a call changes nothing. */
final class Whole {
    /** So few that looking at an object takes less than the 512 calls that it is good for. */
    private static final int MOST_VISITS = 24;

    private Whole() {
    }

    /** A call on an object. */
    interface Call {
        Object on(ChoreAssignment x);
    }

    /** Throws as due, and leaves the object like a twin of it on which the call was not made. */
    static void refused(
            String what, Supplier<ChoreAssignment> maker, Class<? extends Exception> due,
            Call call) {
        ChoreAssignment x = maker.get();
        Check.fails(what, due, () -> call.on(x));
        Check.same("all that is held after " + what, of(x), of(maker.get()));
    }

    /** Answers as due, and leaves the object like a twin of it on which the call was not made. */
    static void keeps(String what, Supplier<ChoreAssignment> maker, Object due, Call call) {
        ChoreAssignment x = maker.get();
        Check.same(what, outcome(x, call), due);
        Check.same("all that is held after " + what, of(x), of(maker.get()));
    }

    static Object outcome(ChoreAssignment x, Call call) {
        return Check.outcome((Callable<?>) () -> call.on(x));
    }

    /** Table, enumeration and saved table, numbers of forbidden cells too. Changes the object. */
    static String of(ChoreAssignment x) {
        StringBuilder text = new StringBuilder();
        addTable(text, x);
        addEnumeration(text, x);
        addNumbers(text, x);
        x.restore();
        text.append(" saved");
        addTable(text, x);
        addNumbers(text, x);
        return text.toString();
    }

    private static void addTable(StringBuilder text, ChoreAssignment x) {
        text.append(" n ").append(x.rows()).append(" m ").append(x.columns());
        text.append(" costs ").append(Tables.costs(x));
    }

    private static void addNumbers(StringBuilder text, ChoreAssignment x) {
        text.append(" numbers ").append(numbers(x));
    }

    /** The numbers of the table, those of forbidden cells too: allows all cells. */
    static String numbers(ChoreAssignment x) {
        int n = x.rows();
        int m = x.columns();
        for (int row = 0; row < n; row++) {
            for (int column = 0; column < m; column++) {
                x.setForbidden(row, column, false);
            }
        }
        return Tables.costs(x);
    }

    private static void addEnumeration(StringBuilder text, ChoreAssignment x) {
        text.append(" steps ").append(x.stepsMade()).append(' ').append(visited(x));
        for (int visit = 0; visit < MOST_VISITS; visit++) {
            Object sum = outcome(x, ChoreAssignment::nextSum);
            text.append(' ').append(sum);
            if (sum instanceof String) {
                break;
            }
            text.append(' ').append(visited(x));
        }
    }

    /** The assignment visited last, as the code that sumOf takes; or what it throws instead. */
    static String visited(ChoreAssignment x) {
        StringBuilder code = new StringBuilder();
        int n = x.rows();
        for (int row = 0; row < n; row++) {
            int asked = row;
            Object column = outcome(x, y -> y.currentColumn(asked));
            if (column instanceof String) {
                return (String) column;
            }
            code.append((int) column + 1);
        }
        return code.toString();
    }
}
