import java.util.concurrent.Callable;

/** Tables that several tests begin with, and what they look at afterwards. */
final class Tables {
    static final Class<IndexOutOfBoundsException> INDEX = IndexOutOfBoundsException.class;
    static final Class<IllegalArgumentException> ARGUMENT = IllegalArgumentException.class;
    static final Class<IllegalStateException> STATE = IllegalStateException.class;
    static final int[] WILD = {-1, Integer.MIN_VALUE, Integer.MAX_VALUE};

    private Tables() {
    }

    /** The costs 4 1 3 / 2 0 5 / 3 2 2; the only optimal assignment is 1 0 2. */
    static ChoreAssignment three() {
        ChoreAssignment x = new ChoreAssignment();
        x.resize(3, 3);
        x.setRow(0, 40103L);
        x.setRow(1, 20005L);
        x.setRow(2, 30202L);
        return x;
    }

    /** The costs 4 7 0 / 1 6 0 / 2 2 0: two real columns and a dummy one. */
    static ChoreAssignment idle() {
        ChoreAssignment x = new ChoreAssignment();
        x.resize(3, 2);
        x.setRow(0, 407L);
        x.setRow(1, 106L);
        x.setRow(2, 202L);
        return x;
    }

    /** All costs 0, but for those of row and column 0, which are 1000. */
    static ChoreAssignment barred(int n) {
        ChoreAssignment x = new ChoreAssignment();
        x.resize(n, n);
        for (int index = 0; index < n; index++) {
            x.setForbidden(0, index, true);
            x.setForbidden(index, 0, true);
        }
        return x;
    }

    /** The costs row by row, as in "4 1 3 / 2 0 5 / 3 2 2". */
    static String costs(ChoreAssignment x) {
        StringBuilder text = new StringBuilder();
        for (int row = 0; row < x.rows(); row++) {
            text.append(row == 0 ? "" : " / ");
            for (int column = 0; column < x.rows(); column++) {
                text.append(column == 0 ? "" : " ").append(x.costAt(row, column));
            }
        }
        return text.toString();
    }

    /** A call that throws the due exception, and leaves table and enumeration as they were. */
    static void refused(
            String what, ChoreAssignment x, Class<? extends Exception> due, Callable<?> call) {
        long before = x.checksum();
        Check.fails(what, due, call);
        Check.same("checksum after " + what, x.checksum(), before);
    }

    /** A call that is answered as due and cancels an active enumeration. */
    static void cancels(String what, ChoreAssignment x, Object due, Callable<?> call) {
        x.startEnumeration();
        x.nextSum();
        Check.same(what, Check.outcome(call), due);
        Check.same("stepsMade after " + what, x.stepsMade(), -1);
        Check.fails("nextSum after " + what, STATE, x::nextSum);
    }
}
