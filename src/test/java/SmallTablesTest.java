import java.lang.reflect.InvocationTargetException;
import java.lang.reflect.Method;
import java.util.Arrays;

/**
 * All tables of one or two rows whose cells are at an edge (0, 1, 99, forbidden), and all calls on
 * them with arguments at an edge and just past it: the program against the model.
 */
public final class SmallTablesTest {
    private static final int[] INDICES = {-1, 0, 1, 2};
    private static final int[] NUMBERS = {-100, -99, -98, -1, 0, 1, 98, 99, 100, 1000, 1001};
    private static final int[] LIMITS = {-1, 0, 1, 99, 100, 198, 999, 1000, 1001, 1999, 2000, 7000,
        7001};
    private static final int[] CODES = {-12, 0, 1, 2, 10, 11, 12, 20, 21, 22, 112, 121};
    private static final int[] SIZES = {0, 1, 2, 3, 7, 8};
    private static final long[] PACKED = {-1L, 0L, 1L, 99L, 100L, 101L, 9900L, 9999L, 10000L};
    private static final String CHANGING = " resize setCost setRow fill setForbidden addToRow "
        + "addToColumn swapRows swapColumns transpose save restore startEnumeration nextSum ";
    /** So many calls on one object, that with its making and checksums 512 are enough. */
    private static final int CALLS = 400;

    private static ChoreAssignment program;
    private static Model model;
    private static int calls = 0;

    private SmallTablesTest() {
    }

    /** A cell's kind: 0, 1, 99, forbidden 0, forbidden 99. */
    private static void put(int n, int m, int[] kinds) {
        program = new ChoreAssignment();
        model = new Model();
        program.resize(n, m);
        model.resize(n, m);
        for (int cell = 0; cell < n * m; cell++) {
            int number = new int[] {0, 1, 99, 0, 99}[kinds[cell]];
            program.setCost(cell / m, cell % m, number);
            model.setCost(cell / m, cell % m, number);
            program.setForbidden(cell / m, cell % m, kinds[cell] >= 3);
            model.setForbidden(cell / m, cell % m, kinds[cell] >= 3);
        }
        program.startEnumeration();
        model.startEnumeration();
        calls = 0;
    }

    private static Object outcome(Method method, Object on, Object[] with) {
        try {
            return method.invoke(on, with);
        } catch (InvocationTargetException e) {
            return "throws " + e.getCause().getClass().getName();
        } catch (IllegalAccessException e) {
            throw new AssertionError(e);
        }
    }

    private static Object[] edges(Method method, int index) {
        String name = method.getName();
        Class<?> type = method.getParameterTypes()[index];
        if (type == boolean.class) {
            return new Object[] {false, true};
        }
        if (type == long.class) {
            return Arrays.stream(PACKED).boxed().toArray();
        }
        if (name.equals("fits") || name.equals("countWithin")) {
            return Arrays.stream(LIMITS).boxed().toArray();
        }
        if (name.equals("sumOf")) {
            return Arrays.stream(CODES).boxed().toArray();
        }
        if (name.equals("resize")) {
            return Arrays.stream(SIZES).boxed().toArray();
        }
        boolean number = name.equals("fill") || index == 2
            || (name.startsWith("addTo") && index == 1);
        return Arrays.stream(number ? NUMBERS : INDICES).boxed().toArray();
    }

    /** Calls a method with all edges, on a new table each time if it could change it. */
    private static void callAll(
            int n, int m, int[] kinds, Method method, Object[] with, int index) throws Exception {
        if (index < with.length) {
            for (Object edge : edges(method, index)) {
                with[index] = edge;
                callAll(n, m, kinds, method, with, index + 1);
            }
            return;
        }
        Method twin = Model.class.getMethod(method.getName(), method.getParameterTypes());
        String what = n + " " + m + " " + Arrays.toString(kinds) + " " + method.getName()
            + Arrays.toString(with);
        Object due = outcome(twin, model, with);
        Check.same(what, outcome(method, program, with), due);
        boolean threw = due instanceof String;
        boolean changes = !threw && CHANGING.contains(" " + method.getName() + " ");
        calls++;
        if (changes || threw && calls % 16 == 0) {
            Check.same(what + ", then checksum", program.checksum(), model.checksum());
        }
        if (changes || calls >= CALLS) {
            put(n, m, kinds);
        }
    }

    private static void callEach(int n, int m, int[] kinds) throws Exception {
        put(n, m, kinds);
        for (Method method : Model.class.getMethods()) {
            if (method.getDeclaringClass() == Model.class) {
                Method own = ChoreAssignment.class.getMethod(method.getName(),
                    method.getParameterTypes());
                callAll(n, m, kinds, own, new Object[own.getParameterCount()], 0);
            }
        }
    }

    private static void eachTable(int n, int m, int[] kinds, int cell) throws Exception {
        if (cell == kinds.length) {
            callEach(n, m, kinds);
            return;
        }
        for (int kind = 0; kind < 5; kind++) {
            kinds[cell] = kind;
            eachTable(n, m, kinds, cell + 1);
        }
    }

    public static void main(String[] args) throws Exception {
        eachTable(1, 1, new int[1], 0);
        eachTable(2, 1, new int[2], 0);
        eachTable(2, 2, new int[4], 0);
        Check.end();
    }
}
