import java.lang.reflect.InvocationTargetException;
import java.lang.reflect.Method;
import java.util.ArrayList;
import java.util.Arrays;
import java.util.HashMap;
import java.util.List;
import java.util.Map;

/** Long runs of all calls, with good and wrong arguments, on the program and on the model. */
public final class RandomRunsTest {
    /** A letter for each argument; see argument(..). Twice in the list: twice as often. */
    private static final String[] CALLS = {
        "resize nm", "setCost rcv", "setCost rcv", "setCost rcv", "setRow rp", "setRow rp",
        "fill sv", "setForbidden rcb", "setForbidden rcb", "setForbidden rcb", "costAt rC",
        "addToRow ra", "addToColumn ca", "swapRows rr", "swapColumns cc", "transpose ", "save ",
        "restore ", "distance ", "rows ", "columns ", "forbiddenCount ", "totalCost ", "minimum ",
        "savedMinimum ", "assigned r", "assigned r", "optimalCount ", "rowPotential r",
        "columnPotential C", "reducedCost rC", "minimumWith rC", "minimumWithout rC",
        "minimumIfCost rck", "secondBest ", "maximum ", "bottleneck ", "fits l", "countWithin L",
        "sumOf d", "startEnumeration ", "startEnumeration ", "nextSum ", "nextSum ", "nextSum ",
        "currentColumn r", "currentColumn r", "stepsMade ", "meanCost ", "shareOf r", "checksum ",
        "isSound ",
    };
    private static final String[] QUIET_CALLS = {
        "startEnumeration ", "nextSum ", "nextSum ", "nextSum ", "nextSum ", "nextSum ",
        "currentColumn r", "stepsMade ", "minimum ", "save ", "isSound ",
    };
    private static final int[] EXTREMES = {
        Integer.MIN_VALUE, Integer.MAX_VALUE, -1, 1 << 30, -(1 << 31) + 7, 65536, -1000,
    };

    private static long state = 12345;
    private static final Map<String, Method> OF_PROGRAM = methodsOf(ChoreAssignment.class);
    private static final Map<String, Method> OF_MODEL = methodsOf(Model.class);

    private RandomRunsTest() {
    }

    private static int below(int bound) {
        state = state * 6364136223846793005L + 1442695040888963407L;
        return (int) ((state >>> 33) % bound);
    }

    private static Map<String, Method> methodsOf(Class<?> of) {
        Map<String, Method> methods = new HashMap<>();
        for (Method method : of.getDeclaredMethods()) {
            methods.put(method.getName(), method);
        }
        return methods;
    }

    private static int between(int low, int high) {
        return low + below(high - low + 1);
    }

    /** Mostly a value from low to high, at times one just outside, seldom one far away. */
    private static int around(int low, int high) {
        int dice = below(60);
        if (dice == 0) {
            return EXTREMES[below(EXTREMES.length)];
        }
        if (dice <= 2) {
            return dice == 1 ? low - 1 : high + 1;
        }
        return dice <= 6 ? (dice <= 4 ? low : high) : between(low, high);
    }

    private static Object argument(char kind, Model model, int most) {
        int n = model.rows();
        int m = model.columns();
        switch (kind) {
            case 'n': return around(1, 7);
            case 'm': return around(1, below(3) == 0 ? 7 : 3);
            case 'r': return around(0, n - 1);
            case 'c': return around(0, m - 1);
            case 'C': return around(0, n - 1);
            case 'v': return below(8) == 0 ? around(0, 99) : between(0, most);
            case 'a': return below(4) == 0 ? around(-99, 99) : between(-3, 3);
            case 'k': return below(4) == 0 ? 1000 : around(0, 99);
            case 's': return around(0, 9999);
            case 'b': return below(3) != 0;
            case 'l': return below(2) == 0 ? near(model.bottleneck()) : around(0, 1000);
            case 'L': return below(2) == 0 ? near(model.minimum()) : around(0, 7000);
            case 'p': return packed(m, most);
            case 'd': return code(n);
            default: throw new AssertionError(kind);
        }
    }

    private static int near(int value) {
        return Math.max(0, value + between(-2, 6));
    }

    private static long packed(int m, int most) {
        long value = 0;
        long bound = 1;
        for (int column = 0; column < m; column++) {
            value = value * 100 + between(0, most);
            bound *= 100;
        }
        switch (below(20)) {
            case 0: return bound;
            case 1: return -1 - value;
            case 2: return bound - 1;
            case 3: return below(2) == 0 ? Long.MAX_VALUE : Long.MIN_VALUE;
            default: return value;
        }
    }

    private static int code(int n) {
        List<Integer> columns = new ArrayList<>();
        for (int column = 1; column <= n; column++) {
            columns.add(below(columns.size() + 1), column);
        }
        int code = 0;
        for (int column : columns) {
            code = code * 10 + column;
        }
        switch (below(8)) {
            case 0: return around(0, 7654321);
            case 1: return -code;
            case 2: return code / 10;
            case 3: return code * 10 + 1;
            case 4: return code + between(-10, 10);
            default: return code;
        }
    }

    private static Object call(Map<String, Method> methods, Object on, String name, Object[] with) {
        try {
            return methods.get(name).invoke(on, with);
        } catch (InvocationTargetException e) {
            return "throws " + e.getCause().getClass().getName();
        } catch (IllegalAccessException e) {
            throw new AssertionError(e);
        }
    }

    private static void run(int number, int calls, int quietFrom, int most) {
        ChoreAssignment program = new ChoreAssignment();
        Model model = new Model();
        for (int step = 0; step < calls; step++) {
            String[] from = step < quietFrom ? CALLS : QUIET_CALLS;
            String[] parts = (from[below(from.length)] + "!").split(" ");
            Object[] with = new Object[parts[1].length() - 1];
            for (int index = 0; index < with.length; index++) {
                with[index] = argument(parts[1].charAt(index), model, most);
            }
            Object due = call(OF_MODEL, model, parts[0], with);
            Object got = call(OF_PROGRAM, program, parts[0], with);
            String what = "run " + number + " call " + step + ": " + parts[0];
            Check.same(what + Arrays.toString(with), got, due);
            // The checksum tells whether a call that throws changed anything; but it is not asked
            // each time, as it might hide what one call leaves behind for the next.
            if (number % 2 == 0 || below(10) == 0) {
                Check.same(what + ", then checksum", program.checksum(), model.checksum());
            }
        }
    }

    public static void main(String[] args) {
        for (int number = 0; number < 300; number++) {
            int[] mosts = {99, 9, 2, 99, 1, 30};
            run(number, 256, number % 3 == 0 ? 40 : 256, mosts[number % mosts.length]);
        }
        Check.end();
    }
}
