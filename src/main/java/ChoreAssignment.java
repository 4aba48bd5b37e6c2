import java.util.NoSuchElementException;

/**
 * A solver for small assignment problems: n workers (rows) and n jobs (columns), a cost for each
 * worker and job, and assignments that give each worker a job of its own.
 */
public final class ChoreAssignment {
    /** Result of a method if there is no such value. */
    public static final int NONE = -1;

    private static final int MOST_ROWS = 7;
    private static final int MOST_CELLS = MOST_ROWS * MOST_ROWS;
    private static final int MOST_NUMBER = 99;
    private static final int NUMBER_BASE = 100;
    private static final int FORBIDDEN_COST = 1000;
    private static final int MOST_SUM = MOST_ROWS * FORBIDDEN_COST;
    private static final int MOST_SEED = 9999;

    private final Table table = new Table();
    private final Table saved = new Table();
    // The solver and its rows of answers hold nothing from call to call; they are fields only to be
    // used again, since all calls of a run share one room.
    private final Solver solver = new Solver();
    private final int[] rowPotentials = new int[MOST_ROWS];
    private final int[] columnPotentials = new int[MOST_ROWS];
    private final int[] firstOptimal = new int[MOST_ROWS];
    private final Walk walk = new Walk();

    /** Creates the table and the saved table; no enumeration is active. */
    public ChoreAssignment() {
    }

    // ---- the table ----

    /** Replaces the table by one in which all numbers are 0; returns its number of real cells. */
    public int resize(int rows, int columns) throws IllegalArgumentException {
        if (rows < 1 || rows > MOST_ROWS || columns < 1 || columns > rows) {
            throw new IllegalArgumentException();
        }
        table.clearTo(rows, columns);
        walk.cancel();
        return rows * columns;
    }

    /** Sets the number of a real cell; returns the previous one. */
    public int setCost(int row, int column, int number)
            throws IndexOutOfBoundsException, IllegalArgumentException {
        requireRealCell(row, column);
        if (number < 0 || number > MOST_NUMBER) {
            throw new IllegalArgumentException();
        }
        int previous = table.numberAt(row, column);
        table.putNumber(row, column, number);
        walk.cancel();
        return previous;
    }

    /** Sets the numbers of a row from decimal digits in base 100; returns the smallest one. */
    public int setRow(int row, long packed)
            throws IndexOutOfBoundsException, IllegalArgumentException {
        requireRow(row);
        if (packed < 0 || packed >= packedBound()) {
            throw new IllegalArgumentException();
        }
        long rest = packed;
        int smallest = MOST_NUMBER;
        for (int column = table.columnCount - 1; column >= 0; column--) {
            int number = (int) (rest % NUMBER_BASE);
            rest /= NUMBER_BASE;
            table.putNumber(row, column, number);
            smallest = Math.min(smallest, number);
        }
        walk.cancel();
        return smallest;
    }

    /** Sets all numbers of real cells from a seed and allows all cells; returns their sum. */
    public int fill(int seed, int most) throws IllegalArgumentException {
        if (seed < 0 || seed > MOST_SEED || most < 0 || most > MOST_NUMBER) {
            throw new IllegalArgumentException();
        }
        int x = seed;
        int sum = 0;
        for (int row = 0; row < table.rowCount; row++) {
            for (int column = 0; column < table.columnCount; column++) {
                x = (37 * x + 11) % 10007;
                int number = x % (most + 1);
                table.putNumber(row, column, number);
                table.putForbidden(row, column, false);
                sum += number;
            }
        }
        walk.cancel();
        return sum;
    }

    /** Forbids or allows a real cell; returns the number of forbidden cells afterwards. */
    public int setForbidden(int row, int column, boolean forbidden)
            throws IndexOutOfBoundsException {
        requireRealCell(row, column);
        table.putForbidden(row, column, forbidden);
        walk.cancel();
        return forbiddenCount();
    }

    /** Returns the cost of a cell. */
    public int costAt(int row, int column) throws IndexOutOfBoundsException {
        requireCell(row, column);
        return table.costOf(row, column);
    }

    /** Adds a number to all costs of a row; returns the sum of its costs afterwards. */
    public int addToRow(int row, int number)
            throws IndexOutOfBoundsException, IllegalArgumentException, IllegalStateException {
        requireRow(row);
        requireAddend(number);
        requireNoDummyColumn();
        for (int column = 0; column < table.columnCount; column++) {
            requireAddable(row, column, number);
        }
        for (int column = 0; column < table.columnCount; column++) {
            table.putNumber(row, column, table.numberAt(row, column) + number);
        }
        walk.cancel();
        return table.sumOfRow(row);
    }

    /** Adds a number to all costs of a real column; returns the sum of its costs afterwards. */
    public int addToColumn(int column, int number)
            throws IndexOutOfBoundsException, IllegalArgumentException, IllegalStateException {
        requireRealColumn(column);
        requireAddend(number);
        for (int row = 0; row < table.rowCount; row++) {
            requireAddable(row, column, number);
        }
        for (int row = 0; row < table.rowCount; row++) {
            table.putNumber(row, column, table.numberAt(row, column) + number);
        }
        walk.cancel();
        return table.sumOfColumn(column);
    }

    /** Exchanges two rows; returns the sum of the costs of the first one afterwards. */
    public int swapRows(int row, int other) throws IndexOutOfBoundsException {
        requireRow(row);
        requireRow(other);
        for (int column = 0; column < table.columnCount; column++) {
            table.swapCells(row, column, other, column);
        }
        walk.cancel();
        return table.sumOfRow(row);
    }

    /** Exchanges two real columns; returns the sum of the costs of the first one afterwards. */
    public int swapColumns(int column, int other) throws IndexOutOfBoundsException {
        requireRealColumn(column);
        requireRealColumn(other);
        for (int row = 0; row < table.rowCount; row++) {
            table.swapCells(row, column, row, other);
        }
        walk.cancel();
        return table.sumOfColumn(column);
    }

    /** Transposes the table; returns n. */
    public int transpose() throws IllegalStateException {
        requireNoDummyColumn();
        for (int row = 0; row < table.rowCount; row++) {
            for (int column = 0; column < row; column++) {
                table.swapCells(row, column, column, row);
            }
        }
        walk.cancel();
        return table.rowCount;
    }

    /** Saves the table; returns the sum of all its costs. */
    public int save() {
        saved.copyFrom(table);
        return totalCost();
    }

    /** Replaces the table by the saved table, which is kept; returns the new n. */
    public int restore() {
        table.copyFrom(saved);
        walk.cancel();
        return table.rowCount;
    }

    /** Returns the sum of the absolute differences of the costs of the table and the saved one. */
    public int distance() {
        if (table.rowCount != saved.rowCount || table.columnCount != saved.columnCount) {
            return NONE;
        }
        int sum = 0;
        for (int row = 0; row < table.rowCount; row++) {
            for (int column = 0; column < table.rowCount; column++) {
                sum += Math.abs(table.costOf(row, column) - saved.costOf(row, column));
            }
        }
        return sum;
    }

    /** Returns n. */
    public int rows() {
        return table.rowCount;
    }

    /** Returns m, the number of real columns. */
    public int columns() {
        return table.columnCount;
    }

    /** Returns the number of forbidden cells. */
    public int forbiddenCount() {
        int count = 0;
        for (int row = 0; row < table.rowCount; row++) {
            for (int column = 0; column < table.columnCount; column++) {
                if (table.isForbidden(row, column)) {
                    count++;
                }
            }
        }
        return count;
    }

    /** Returns the sum of all n * n costs. */
    public int totalCost() {
        int sum = 0;
        for (int row = 0; row < table.rowCount; row++) {
            sum += table.sumOfRow(row);
        }
        return sum;
    }

    // ---- optimal assignments ----

    /** Returns the smallest sum of all assignments. */
    public int minimum() {
        solver.load(table);
        return solver.leastSum();
    }

    /** Returns the smallest sum of all assignments in the saved table. */
    public int savedMinimum() {
        solver.load(saved);
        return solver.leastSum();
    }

    /** Returns the column that the first optimal assignment gives a row. */
    public int assigned(int row) throws IndexOutOfBoundsException {
        requireRow(row);
        findFirstOptimal();
        return firstOptimal[row];
    }

    /** Returns the number of optimal assignments. */
    public int optimalCount() {
        solver.load(table);
        solver.leastSum();
        return solver.leastWays();
    }

    /** Returns the potential of a row. */
    public int rowPotential(int row) throws IndexOutOfBoundsException {
        requireRow(row);
        findPotentials();
        return rowPotentials[row];
    }

    /** Returns the potential of a column. */
    public int columnPotential(int column) throws IndexOutOfBoundsException {
        requireColumn(column);
        findPotentials();
        return columnPotentials[column];
    }

    /** Returns the cost of a cell minus the potentials of its row and its column. */
    public int reducedCost(int row, int column) throws IndexOutOfBoundsException {
        requireCell(row, column);
        findPotentials();
        return reducedBy(row, column);
    }

    /** Returns the smallest sum of all assignments that use a cell. */
    public int minimumWith(int row, int column) throws IndexOutOfBoundsException {
        requireCell(row, column);
        solver.load(table);
        for (int other = 0; other < table.rowCount; other++) {
            if (other != column) {
                solver.putCost(row, other, Solver.BLOCKED);
            }
        }
        return solver.leastSum();
    }

    /** Returns the smallest sum of all assignments that do not use a cell; NONE if n = 1. */
    public int minimumWithout(int row, int column) throws IndexOutOfBoundsException {
        requireCell(row, column);
        return table.rowCount == 1 ? NONE : leastWithCost(row, column, Solver.BLOCKED);
    }

    /** Returns what the minimum would be if a real cell had another cost. */
    public int minimumIfCost(int row, int column, int cost)
            throws IndexOutOfBoundsException, IllegalArgumentException {
        requireRealCell(row, column);
        if ((cost < 0 || cost > MOST_NUMBER) && cost != FORBIDDEN_COST) {
            throw new IllegalArgumentException();
        }
        return leastWithCost(row, column, cost);
    }

    /** Returns the smallest sum of all assignments but the first optimal one; NONE if n = 1. */
    public int secondBest() {
        if (table.rowCount == 1) {
            return NONE;
        }
        findFirstOptimal();
        // Any other assignment leaves out a cell of the first optimal one.
        int second = Solver.BLOCKED;
        for (int row = 0; row < table.rowCount; row++) {
            second = Math.min(second, leastWithCost(row, firstOptimal[row], Solver.BLOCKED));
        }
        return second;
    }

    // ---- other objectives ----

    /** Returns the greatest sum of all allowed assignments; NONE if there is none. */
    public int maximum() {
        solver.load(table);
        for (int row = 0; row < table.rowCount; row++) {
            for (int column = 0; column < table.columnCount; column++) {
                if (table.isForbidden(row, column)) {
                    solver.putCost(row, column, -Solver.BLOCKED);
                }
            }
        }
        int greatest = solver.greatestSum();
        return greatest < 0 ? NONE : greatest;
    }

    /** Returns the smallest possible value of the greatest cost in an assignment. */
    public int bottleneck() {
        solver.load(table);
        return solver.leastPeak();
    }

    /** Tells whether there is an assignment in which no cell costs more than a limit. */
    public boolean fits(int limit) throws IllegalArgumentException {
        if (limit < 0 || limit > FORBIDDEN_COST) {
            throw new IllegalArgumentException();
        }
        solver.load(table);
        for (int row = 0; row < table.rowCount; row++) {
            for (int column = 0; column < table.rowCount; column++) {
                solver.putCost(row, column, table.costOf(row, column) > limit ? 1 : 0);
            }
        }
        return solver.leastSum() == 0;
    }

    /** Returns the number of assignments whose sum is at most a limit. */
    public int countWithin(int limit) throws IllegalArgumentException {
        if (limit < 0 || limit > MOST_SUM) {
            throw new IllegalArgumentException();
        }
        solver.load(table);
        solver.leastSum();
        solver.greatestSum();
        return Solver.countFrom(solver, 0, 0, limit);
    }

    /** Returns the sum of the assignment with a code of n decimal digits. */
    public int sumOf(int code) throws IllegalArgumentException {
        int rest = code;
        int used = 0;
        int sum = 0;
        for (int row = table.rowCount - 1; row >= 0; row--) {
            // A negative code shows here too: its last digit is not above 0.
            int column = rest % 10 - 1;
            rest /= 10;
            if (!isColumn(column) || (used >> column & 1) != 0) {
                throw new IllegalArgumentException();
            }
            used |= 1 << column;
            sum += table.costOf(row, column);
        }
        if (rest != 0) {
            throw new IllegalArgumentException();
        }
        return sum;
    }

    // ---- enumeration ----

    /** Starts the enumeration, before its first step; returns the number of assignments. */
    public int startEnumeration() throws IllegalStateException {
        if (table.rowCount > Walk.MOST_WALKED_ROWS) {
            throw new IllegalStateException();
        }
        walk.begin(table);
        return walk.keyCount;
    }

    /** Moves the enumeration to its next assignment; returns the sum of that assignment. */
    public int nextSum() throws IllegalStateException, NoSuchElementException {
        if (!walk.active) {
            throw new IllegalStateException();
        }
        if (walk.steps >= walk.keyCount) {
            throw new NoSuchElementException();
        }
        walk.advance();
        return walk.visitedSum();
    }

    /** Returns the column that the assignment visited last gives a row. */
    public int currentColumn(int row) throws IndexOutOfBoundsException, IllegalStateException {
        requireRow(row);
        if (!walk.active || walk.steps == 0) {
            throw new IllegalStateException();
        }
        return walk.visitedColumn(row);
    }

    /** Returns the number of assignments visited; NONE if no enumeration is active. */
    public int stepsMade() {
        return walk.active ? walk.steps : NONE;
    }

    // ---- summaries ----

    /** Returns the sum of all n * n costs divided by n * n. */
    public double meanCost() {
        return (double) totalCost() / (double) (table.rowCount * table.rowCount);
    }

    /** Returns the share of a row in the minimum; 0 if the minimum is 0. */
    public float shareOf(int row) throws IndexOutOfBoundsException {
        requireRow(row);
        int least = minimum();
        if (least == 0) {
            return 0.0f;
        }
        return (float) table.costOf(row, assigned(row)) / (float) least;
    }

    /** Returns a checksum of the table, its first optimal assignment and the saved table. */
    public long checksum() {
        long hash = 17;
        hash = mixed(hash, rows());
        hash = mixed(hash, columns());
        hash = mixed(hash, forbiddenCount());
        hash = mixed(hash, totalCost());
        hash = mixed(hash, stepsMade());
        hash = mixedCosts(hash, table);
        hash = mixed(hash, minimum());
        findFirstOptimal();
        for (int row = 0; row < table.rowCount; row++) {
            hash = mixed(hash, firstOptimal[row]);
        }
        hash = mixed(hash, saved.rowCount);
        hash = mixed(hash, saved.columnCount);
        return mixedCosts(hash, saved);
    }

    /** Checks parts of the theorem for the table. */
    public boolean isSound() {
        findPotentials();
        findFirstOptimal();
        return potentialsAddUp() && reducedCostsHold() && cellSplitHolds() && bottleneckHolds();
    }

    // ---- tests of arguments ----

    private boolean isColumn(int column) {
        return column >= 0 && column < table.rowCount;
    }

    private void requireRow(int row) {
        if (row < 0 || row >= table.rowCount) {
            throw new IndexOutOfBoundsException();
        }
    }

    private void requireColumn(int column) {
        if (!isColumn(column)) {
            throw new IndexOutOfBoundsException();
        }
    }

    private void requireRealColumn(int column) {
        if (column < 0 || column >= table.columnCount) {
            throw new IndexOutOfBoundsException();
        }
    }

    private void requireCell(int row, int column) {
        requireRow(row);
        requireColumn(column);
    }

    private void requireRealCell(int row, int column) {
        requireRow(row);
        requireRealColumn(column);
    }

    private void requireAddend(int number) {
        if (number < -MOST_NUMBER || number > MOST_NUMBER) {
            throw new IllegalArgumentException();
        }
    }

    private void requireNoDummyColumn() {
        if (table.columnCount < table.rowCount) {
            throw new IllegalStateException();
        }
    }

    private void requireAddable(int row, int column, int number) {
        int after = table.numberAt(row, column) + number;
        if (table.isForbidden(row, column) || after < 0 || after > MOST_NUMBER) {
            throw new IllegalStateException();
        }
    }

    private long packedBound() {
        long bound = 1;
        for (int column = 0; column < table.columnCount; column++) {
            bound *= NUMBER_BASE;
        }
        return bound;
    }

    // ---- parts of the answers ----

    private void findFirstOptimal() {
        solver.load(table);
        solver.leastSum();
        solver.traceLeast(firstOptimal);
    }

    private int leastWithCost(int row, int column, int cost) {
        solver.load(table);
        solver.putCost(row, column, cost);
        return solver.leastSum();
    }

    private void findPotentials() {
        int least = minimum();
        for (int row = 0; row < table.rowCount; row++) {
            // Without its cell of column 0, the best assignment that uses the cell is the best
            // one of the other rows to the other columns.
            int others = minimumWith(row, 0) - table.costOf(row, 0);
            rowPotentials[row] = least - others;
        }
        for (int column = 0; column < table.rowCount; column++) {
            columnPotentials[column] = smallestRest(column);
        }
    }

    private int smallestRest(int column) {
        int smallest = table.costOf(0, column) - rowPotentials[0];
        for (int row = 1; row < table.rowCount; row++) {
            smallest = Math.min(smallest, table.costOf(row, column) - rowPotentials[row]);
        }
        return smallest;
    }

    private int reducedBy(int row, int column) {
        return table.costOf(row, column) - rowPotentials[row] - columnPotentials[column];
    }

    private boolean potentialsAddUp() {
        int sum = 0;
        for (int index = 0; index < table.rowCount; index++) {
            sum += rowPotentials[index] + columnPotentials[index];
        }
        return sum == minimum();
    }

    private boolean reducedCostsHold() {
        for (int row = 0; row < table.rowCount; row++) {
            for (int column = 0; column < table.rowCount; column++) {
                int reduced = reducedBy(row, column);
                if (reduced < 0 || (reduced != 0 && firstOptimal[row] == column)) {
                    return false;
                }
            }
        }
        return true;
    }

    private boolean cellSplitHolds() {
        int smaller = minimumWith(0, 0);
        if (table.rowCount > 1) {
            smaller = Math.min(smaller, minimumWithout(0, 0));
        }
        return minimum() == smaller;
    }

    private boolean bottleneckHolds() {
        int peak = bottleneck();
        return fits(peak) && (peak == 0 || !fits(peak - 1));
    }

    private static long mixed(long hash, int value) {
        return 31 * hash + value;
    }

    private static long mixedCosts(long hash, Table costs) {
        long result = hash;
        for (int row = 0; row < costs.rowCount; row++) {
            for (int column = 0; column < costs.rowCount; column++) {
                result = mixed(result, costs.costOf(row, column));
            }
        }
        return result;
    }

    private static int factorial(int count) {
        int product = 1;
        for (int factor = 2; factor <= count; factor++) {
            product *= factor;
        }
        return product;
    }

    /** The rows of every table lie at the same distance, so that a resize moves nothing. */
    private static int cellIndex(int row, int column) {
        return row * MOST_ROWS + column;
    }

    /** A table of numbers and forbidden cells; the callers pass only rows and columns it has. */
    private static final class Table {
        private int rowCount = 1;
        private int columnCount = 1;
        private final int[] numbers = new int[MOST_CELLS];
        private final boolean[] forbidden = new boolean[MOST_CELLS];

        void clearTo(int newRowCount, int newColumnCount) {
            rowCount = newRowCount;
            columnCount = newColumnCount;
            for (int cell = 0; cell < MOST_CELLS; cell++) {
                numbers[cell] = 0;
                forbidden[cell] = false;
            }
        }

        void copyFrom(Table source) {
            rowCount = source.rowCount;
            columnCount = source.columnCount;
            for (int cell = 0; cell < MOST_CELLS; cell++) {
                numbers[cell] = source.numbers[cell];
                forbidden[cell] = source.forbidden[cell];
            }
        }

        int numberAt(int row, int column) {
            return numbers[cellIndex(row, column)];
        }

        void putNumber(int row, int column, int number) {
            numbers[cellIndex(row, column)] = number;
        }

        boolean isForbidden(int row, int column) {
            return forbidden[cellIndex(row, column)];
        }

        void putForbidden(int row, int column, boolean value) {
            forbidden[cellIndex(row, column)] = value;
        }

        int costOf(int row, int column) {
            if (column >= columnCount) {
                return 0;
            }
            return isForbidden(row, column) ? FORBIDDEN_COST : numberAt(row, column);
        }

        int sumOfRow(int row) {
            int sum = 0;
            for (int column = 0; column < columnCount; column++) {
                sum += costOf(row, column);
            }
            return sum;
        }

        int sumOfColumn(int column) {
            int sum = 0;
            for (int row = 0; row < rowCount; row++) {
                sum += costOf(row, column);
            }
            return sum;
        }

        void swapCells(int row, int column, int otherRow, int otherColumn) {
            int number = numberAt(row, column);
            boolean barred = isForbidden(row, column);
            putNumber(row, column, numberAt(otherRow, otherColumn));
            putForbidden(row, column, isForbidden(otherRow, otherColumn));
            putNumber(otherRow, otherColumn, number);
            putForbidden(otherRow, otherColumn, barred);
        }
    }

    /**
     * Best sums over sets of columns. A set of k used columns stands for the rows from k on, which
     * share the columns that are left; so each answer is built up from the full set to the empty.
     */
    private static final class Solver {
        /** Far above any sum of costs: a cell of this cost is shunned if there is another way. */
        private static final int BLOCKED = 100_000;
        private static final int SETS = 1 << MOST_ROWS;

        private int size = 1;
        private final int[] costs = new int[MOST_CELLS];
        private final int[] least = new int[SETS];
        private final int[] ways = new int[SETS];
        private final int[] greatest = new int[SETS];

        void load(Table table) {
            size = table.rowCount;
            for (int row = 0; row < size; row++) {
                for (int column = 0; column < size; column++) {
                    putCost(row, column, table.costOf(row, column));
                }
            }
        }

        void putCost(int row, int column, int cost) {
            costs[cellIndex(row, column)] = cost;
        }

        private int allColumns() {
            return (1 << size) - 1;
        }

        private static boolean isFree(int used, int column) {
            return (used >> column & 1) == 0;
        }

        /** Returns the smallest sum of all assignments, and counts them for leastWays. */
        int leastSum() {
            int all = allColumns();
            least[all] = 0;
            ways[all] = 1;
            for (int used = all - 1; used >= 0; used--) {
                findLeast(used);
            }
            return least[0];
        }

        private void findLeast(int used) {
            int row = Integer.bitCount(used);
            int best = Integer.MAX_VALUE;
            int count = 0;
            for (int column = 0; column < size; column++) {
                if (isFree(used, column)) {
                    int next = used | 1 << column;
                    int sum = costs[cellIndex(row, column)] + least[next];
                    if (sum < best) {
                        best = sum;
                        count = 0;
                    }
                    if (sum == best) {
                        count += ways[next];
                    }
                }
            }
            least[used] = best;
            ways[used] = count;
        }

        /** Returns the number of assignments with the sum that leastSum found. */
        int leastWays() {
            return ways[0];
        }

        /** Writes the lexicographically smallest assignment with the sum that leastSum found. */
        void traceLeast(int[] columns) {
            int used = 0;
            for (int row = 0; row < size; row++) {
                for (int column = 0; column < size; column++) {
                    if (isFree(used, column) && isOnLeast(row, column, used)) {
                        columns[row] = column;
                        used |= 1 << column;
                        break;
                    }
                }
            }
        }

        private boolean isOnLeast(int row, int column, int used) {
            return costs[cellIndex(row, column)] + least[used | 1 << column] == least[used];
        }

        /** Returns the greatest sum of all assignments. */
        int greatestSum() {
            int all = allColumns();
            greatest[all] = 0;
            for (int used = all - 1; used >= 0; used--) {
                int row = Integer.bitCount(used);
                int best = Integer.MIN_VALUE;
                for (int column = 0; column < size; column++) {
                    if (isFree(used, column)) {
                        int sum = costs[cellIndex(row, column)] + greatest[used | 1 << column];
                        best = Math.max(best, sum);
                    }
                }
                greatest[used] = best;
            }
            return greatest[0];
        }

        /** Returns the smallest possible greatest cost in an assignment; spoils leastSum's sets. */
        int leastPeak() {
            int all = allColumns();
            least[all] = 0;
            for (int used = all - 1; used >= 0; used--) {
                int row = Integer.bitCount(used);
                int best = Integer.MAX_VALUE;
                for (int column = 0; column < size; column++) {
                    if (isFree(used, column)) {
                        int cost = costs[cellIndex(row, column)];
                        best = Math.min(best, Math.max(cost, least[used | 1 << column]));
                    }
                }
                least[used] = best;
            }
            return least[0];
        }

        /**
         * Counts the ways to give the rows from a row on the columns that are not used, with a sum
         * of at most a limit; leastSum and greatestSum must have been called. Their sums decide
         * most sets at once.
         */
        private static int countFrom(Solver solver, int row, int used, int limit) {
            if (limit < solver.least[used]) {
                return 0;
            }
            if (row >= solver.size || limit >= solver.greatest[used]) {
                return factorial(solver.size - row);
            }
            int count = 0;
            for (int column = 0; column < solver.size; column++) {
                if (isFree(used, column)) {
                    int rest = limit - solver.costs[cellIndex(row, column)];
                    count += countFrom(solver, row + 1, used | 1 << column, rest);
                }
            }
            return count;
        }
    }

    /**
     * The enumeration. Each assignment is one key, its sum above its columns, that of row 0
     * highest; so the keys stand in the order of the visits, and no two are the same.
     */
    private static final class Walk {
        private static final int MOST_WALKED_ROWS = 6;
        private static final int MOST_KEYS = 720;
        private static final int COLUMN_BITS = 3;
        private static final int COLUMN_MASK = (1 << COLUMN_BITS) - 1;
        private static final int SUM_SHIFT = COLUMN_BITS * MOST_WALKED_ROWS;
        private static final int BEFORE_ALL_KEYS = -1;

        private boolean active = false;
        private int steps = 0;
        private int visitedKey = BEFORE_ALL_KEYS;
        private int keyCount = 0;
        private final int[] keys = new int[MOST_KEYS];

        void cancel() {
            active = false;
        }

        void begin(Table table) {
            active = true;
            steps = 0;
            visitedKey = BEFORE_ALL_KEYS;
            keyCount = 0;
            addKeys(this, table, 0, 0, 0);
        }

        private static void addKeys(Walk walk, Table table, int row, int used, int key) {
            if (row >= table.rowCount) {
                if (walk.keyCount < MOST_KEYS) {
                    walk.keys[walk.keyCount] = key;
                    walk.keyCount++;
                }
                return;
            }
            for (int column = 0; column < table.rowCount; column++) {
                if ((used >> column & 1) == 0) {
                    int part = (table.costOf(row, column) << SUM_SHIFT) + (column << shiftOf(row));
                    addKeys(walk, table, row + 1, used | 1 << column, key + part);
                }
            }
        }

        private static int shiftOf(int row) {
            return COLUMN_BITS * (MOST_WALKED_ROWS - 1 - row);
        }

        void advance() {
            int next = Integer.MAX_VALUE;
            for (int index = 0; index < keyCount; index++) {
                int key = keys[index];
                if (key > visitedKey && key < next) {
                    next = key;
                }
            }
            visitedKey = next;
            steps++;
        }

        int visitedSum() {
            return visitedKey >> SUM_SHIFT;
        }

        int visitedColumn(int row) {
            return visitedKey >> shiftOf(row) & COLUMN_MASK;
        }
    }
}
