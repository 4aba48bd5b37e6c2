import java.util.concurrent.Callable;

/** Tables that several tests begin with, and what they look at afterwards. */
final class Tables {
    static final Class<IndexOutOfBoundsException> INDEX = IndexOutOfBoundsException.class;
    static final Class<IllegalArgumentException> ARGUMENT = IllegalArgumentException.class;
    static final Class<IllegalStateException> STATE = IllegalStateException.class;
    static final int[] WILD = {-1, Integer.MIN_VALUE, Integer.MAX_VALUE};

    private Tables() {
    }

    /**
     * A table of the real cells row by row, as in "4 x7 / 1 6 / 2 2": x7 is a forbidden cell with
     * the number 7; of three rows with two real columns, one column is a dummy one.
     */
    static ChoreAssignment of(String cells) {
        ChoreAssignment x = new ChoreAssignment();
        put(x, cells);
        return x;
    }

    /** The same, on an object that may hold another table. */
    static void put(ChoreAssignment x, String cells) {
        String[] rows = cells.split(" / ");
        x.resize(rows.length, rows[0].split(" ").length);
        for (int row = 0; row < rows.length; row++) {
            String[] numbers = rows[row].split(" ");
            for (int column = 0; column < numbers.length; column++) {
                x.setCost(row, column, Integer.parseInt(numbers[column].replace("x", "")));
                if (numbers[column].startsWith("x")) {
                    x.setForbidden(row, column, true);
                }
            }
        }
    }

    /** A table in which all real cells have the same number. */
    static ChoreAssignment level(int n, int m, int number) {
        ChoreAssignment x = new ChoreAssignment();
        x.resize(n, m);
        for (int cell = 0; cell < n * m; cell++) {
            x.setCost(cell / m, cell % m, number);
        }
        return x;
    }

    /** A table in which all real cells are forbidden, and their numbers 0. */
    static ChoreAssignment shut(int n, int m) {
        ChoreAssignment x = new ChoreAssignment();
        x.resize(n, m);
        for (int cell = 0; cell < n * m; cell++) {
            x.setForbidden(cell / m, cell % m, true);
        }
        return x;
    }

    /** The costs 4 1 3 / 2 0 5 / 3 2 2; the only optimal assignment is 1 0 2. */
    static ChoreAssignment three() {
        ChoreAssignment x = new ChoreAssignment();
        x.resize(3, 3);
        x.setRow(0, 40103L);
        x.setRow(1, 20005L);
        x.setRow(2, 30202L);
        return x;
    }

    /** The costs 4 7 0 / 1 6 0 / 2 2 0: two real columns and a dummy one. */
    static ChoreAssignment idle() {
        ChoreAssignment x = new ChoreAssignment();
        x.resize(3, 2);
        x.setRow(0, 407L);
        x.setRow(1, 106L);
        x.setRow(2, 202L);
        return x;
    }

    /** 4 7 0 / 1 1000 0 / 2 2 0, of which two assignments were visited; saved is 5 1000 / 8 9. */
    static ChoreAssignment midway() {
        ChoreAssignment x = of("5 x3 / 8 9");
        x.save();
        put(x, "4 7 / 1 x6 / 2 2");
        x.startEnumeration();
        x.nextSum();
        x.nextSum();
        return x;
    }

    /** All costs 0, but for those of row and column 0, which are 1000. */
    static ChoreAssignment barred(int n) {
        ChoreAssignment x = new ChoreAssignment();
        x.resize(n, n);
        for (int index = 0; index < n; index++) {
            x.setForbidden(0, index, true);
            x.setForbidden(index, 0, true);
        }
        return x;
    }

    /** The costs row by row, as in "4 1 3 / 2 0 5 / 3 2 2". */
    static String costs(ChoreAssignment x) {
        StringBuilder text = new StringBuilder();
        int n = x.rows();
        for (int row = 0; row < n; row++) {
            text.append(row == 0 ? "" : " / ");
            for (int column = 0; column < n; column++) {
                text.append(column == 0 ? "" : " ").append(x.costAt(row, column));
            }
        }
        return text.toString();
    }

    /** A call that throws the due exception, and leaves table and enumeration as they were. */
    static void refused(
            String what, ChoreAssignment x, Class<? extends Exception> due, Callable<?> call) {
        long before = x.checksum();
        Check.fails(what, due, call);
        Check.same("checksum after " + what, x.checksum(), before);
    }

    /** A call that is answered as due and cancels an active enumeration. */
    static void cancels(String what, ChoreAssignment x, Object due, Callable<?> call) {
        x.startEnumeration();
        x.nextSum();
        Check.same(what, Check.outcome(call), due);
        Check.same("stepsMade after " + what, x.stepsMade(), -1);
        Check.fails("nextSum after " + what, STATE, x::nextSum);
    }
}
