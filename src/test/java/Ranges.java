import java.util.function.Supplier;

/** The rows and columns that a call takes, in tables of all sizes. */
final class Ranges {
    private static final int[] NEVER = {-1, -2, Integer.MIN_VALUE, Integer.MAX_VALUE};

    private Ranges() {
    }

    /** A call with a row or a column. */
    interface IndexCall {
        Object on(ChoreAssignment x, int index);
    }

    /** A call that takes 0 to n - 1. */
    static void upToN(String what, IndexCall call) {
        for (int n = 1; n <= 7; n++) {
            for (int m = 1; m <= n; m++) {
                takes(what, n, m, n, call);
            }
        }
    }

    /** A call that takes 0 to n - 1, of tables without a dummy column. */
    static void upToNOfReal(String what, IndexCall call) {
        for (int n = 1; n <= 7; n++) {
            takes(what, n, n, n, call);
        }
    }

    /** A call that takes the index of a real column, 0 to m - 1. */
    static void upToM(String what, IndexCall call) {
        for (int n = 1; n <= 7; n++) {
            for (int m = 1; m <= n; m++) {
                takes(what, n, m, m, call);
            }
        }
    }

    private static void takes(String what, int n, int m, int bound, IndexCall call) {
        Supplier<ChoreAssignment> maker = () -> sized(n, m);
        String of = " of " + n + " rows and " + m + " real columns";
        for (int index = 0; index < bound; index++) {
            int good = index;
            Object outcome = Whole.outcome(maker.get(), x -> call.on(x, good));
            Check.same(what + " " + good + of + " (" + outcome + ") is answered",
                outcome instanceof String, false);
        }
        for (int index = bound; index <= 8; index++) {
            int wrong = index;
            Whole.refused(what + " " + wrong + of, maker, Tables.INDEX, x -> call.on(x, wrong));
        }
        for (int never : NEVER) {
            Whole.refused(what + " " + never + of, maker, Tables.INDEX, x -> call.on(x, never));
        }
    }

    /** Numbers 0 to 49, another saved table, and an enumeration that has made a step. */
    private static ChoreAssignment sized(int n, int m) {
        ChoreAssignment x = new ChoreAssignment();
        x.resize(7, 6);
        x.fill(77, 99);
        x.save();
        x.resize(n, m);
        x.fill(10 * n + m, 49);
        if (n <= 6) {
            x.startEnumeration();
            x.nextSum();
        }
        return x;
    }
}
