import java.util.ArrayList;
import java.util.Arrays;
import java.util.Collections;
import java.util.List;
import java.util.NoSuchElementException;

/**
 * The document word for word, by trying all assignments: slow, and written without a look at how
 * the program does it. The random runs compare the two.
 */
public final class Model {
    private static final int NONE = -1;
    private static final List<List<int[]>> ASSIGNMENTS = allAssignments();

    private int n = 1;
    private int m = 1;
    private int[][] number = new int[1][1];
    private boolean[][] barred = new boolean[1][1];
    private int savedN = 1;
    private int savedM = 1;
    private int[][] savedNumber = new int[1][1];
    private boolean[][] savedBarred = new boolean[1][1];
    private List<int[]> visits = null;
    private int visited = 0;

    /** For each n the assignments in lexicographic order. */
    private static List<List<int[]>> allAssignments() {
        List<List<int[]>> all = new ArrayList<>();
        for (int n = 0; n <= 7; n++) {
            List<int[]> found = new ArrayList<>();
            extend(new int[n], 0, found);
            all.add(found);
        }
        return all;
    }

    private static void extend(int[] p, int row, List<int[]> found) {
        if (row == p.length) {
            found.add(p.clone());
            return;
        }
        for (int c = 0; c < p.length; c++) {
            boolean free = true;
            for (int i = 0; i < row; i++) {
                free &= p[i] != c;
            }
            if (free) {
                p[row] = c;
                extend(p, row + 1, found);
            }
        }
    }

    private static void index(boolean good) {
        if (!good) {
            throw new IndexOutOfBoundsException();
        }
    }

    private static void argument(boolean good) {
        if (!good) {
            throw new IllegalArgumentException();
        }
    }

    private static void state(boolean good) {
        if (!good) {
            throw new IllegalStateException();
        }
    }

    private static boolean in(int value, int low, int high) {
        return value >= low && value <= high;
    }

    private static int[][] costs(int n, int m, int[][] number, boolean[][] barred) {
        int[][] cost = new int[n][n];
        for (int i = 0; i < n; i++) {
            for (int j = 0; j < m; j++) {
                cost[i][j] = barred[i][j] ? 1000 : number[i][j];
            }
        }
        return cost;
    }

    private int[][] costs() {
        return costs(n, m, number, barred);
    }

    private int[][] savedCosts() {
        return costs(savedN, savedM, savedNumber, savedBarred);
    }

    private static int sum(int[][] cost, int[] p) {
        int sum = 0;
        for (int i = 0; i < p.length; i++) {
            sum += cost[i][p[i]];
        }
        return sum;
    }

    private static int least(int[][] cost) {
        int best = Integer.MAX_VALUE;
        for (int[] p : ASSIGNMENTS.get(cost.length)) {
            best = Math.min(best, sum(cost, p));
        }
        return best;
    }

    private int[] first() {
        int[][] cost = costs();
        int best = least(cost);
        for (int[] p : ASSIGNMENTS.get(n)) {
            if (sum(cost, p) == best) {
                return p;
            }
        }
        throw new AssertionError();
    }

    private static int total(int[][] cost) {
        return Arrays.stream(cost).mapToInt(row -> Arrays.stream(row).sum()).sum();
    }

    private static int[][] copy(int[][] of) {
        int[][] copy = new int[of.length][];
        for (int i = 0; i < of.length; i++) {
            copy[i] = of[i].clone();
        }
        return copy;
    }

    private static boolean[][] copy(boolean[][] of) {
        boolean[][] copy = new boolean[of.length][];
        for (int i = 0; i < of.length; i++) {
            copy[i] = of[i].clone();
        }
        return copy;
    }

    public int resize(int rows, int columns) {
        argument(in(rows, 1, 7) && in(columns, 1, rows));
        n = rows;
        m = columns;
        number = new int[n][m];
        barred = new boolean[n][m];
        visits = null;
        return n * m;
    }

    public int setCost(int row, int column, int value) {
        index(in(row, 0, n - 1) && in(column, 0, m - 1));
        argument(in(value, 0, 99));
        int old = number[row][column];
        number[row][column] = value;
        visits = null;
        return old;
    }

    public int setRow(int row, long packed) {
        index(in(row, 0, n - 1));
        argument(packed >= 0 && packed < Math.round(Math.pow(100, m)));
        String digits = String.format("%0" + 2 * m + "d", packed);
        int smallest = 99;
        for (int j = 0; j < m; j++) {
            number[row][j] = Integer.parseInt(digits.substring(2 * j, 2 * j + 2));
            smallest = Math.min(smallest, number[row][j]);
        }
        visits = null;
        return smallest;
    }

    public int fill(int seed, int most) {
        argument(in(seed, 0, 9999) && in(most, 0, 99));
        int x = seed;
        int sum = 0;
        for (int i = 0; i < n; i++) {
            for (int j = 0; j < m; j++) {
                x = (37 * x + 11) % 10007;
                number[i][j] = x % (most + 1);
                barred[i][j] = false;
                sum += number[i][j];
            }
        }
        visits = null;
        return sum;
    }

    public int setForbidden(int row, int column, boolean forbidden) {
        index(in(row, 0, n - 1) && in(column, 0, m - 1));
        barred[row][column] = forbidden;
        visits = null;
        return forbiddenCount();
    }

    public int costAt(int row, int column) {
        index(in(row, 0, n - 1) && in(column, 0, n - 1));
        return costs()[row][column];
    }

    public int addToRow(int row, int add) {
        index(in(row, 0, n - 1));
        argument(in(add, -99, 99));
        state(m == n);
        for (int j = 0; j < m; j++) {
            state(!barred[row][j] && in(number[row][j] + add, 0, 99));
        }
        for (int j = 0; j < m; j++) {
            number[row][j] += add;
        }
        visits = null;
        return Arrays.stream(costs()[row]).sum();
    }

    public int addToColumn(int column, int add) {
        index(in(column, 0, m - 1));
        argument(in(add, -99, 99));
        for (int i = 0; i < n; i++) {
            state(!barred[i][column] && in(number[i][column] + add, 0, 99));
        }
        for (int i = 0; i < n; i++) {
            number[i][column] += add;
        }
        visits = null;
        return columnSum(column);
    }

    private int columnSum(int column) {
        return Arrays.stream(costs()).mapToInt(row -> row[column]).sum();
    }

    public int swapRows(int row, int other) {
        index(in(row, 0, n - 1) && in(other, 0, n - 1));
        int[] numbers = number[row];
        number[row] = number[other];
        number[other] = numbers;
        boolean[] bars = barred[row];
        barred[row] = barred[other];
        barred[other] = bars;
        visits = null;
        return Arrays.stream(costs()[row]).sum();
    }

    public int swapColumns(int column, int other) {
        index(in(column, 0, m - 1) && in(other, 0, m - 1));
        for (int i = 0; i < n; i++) {
            int value = number[i][column];
            number[i][column] = number[i][other];
            number[i][other] = value;
            boolean bar = barred[i][column];
            barred[i][column] = barred[i][other];
            barred[i][other] = bar;
        }
        visits = null;
        return columnSum(column);
    }

    public int transpose() {
        state(m == n);
        int[][] numbers = copy(number);
        boolean[][] bars = copy(barred);
        for (int i = 0; i < n; i++) {
            for (int j = 0; j < n; j++) {
                number[i][j] = numbers[j][i];
                barred[i][j] = bars[j][i];
            }
        }
        visits = null;
        return n;
    }

    public int save() {
        savedN = n;
        savedM = m;
        savedNumber = copy(number);
        savedBarred = copy(barred);
        return totalCost();
    }

    public int restore() {
        n = savedN;
        m = savedM;
        number = copy(savedNumber);
        barred = copy(savedBarred);
        visits = null;
        return n;
    }

    public int distance() {
        if (n != savedN || m != savedM) {
            return NONE;
        }
        int sum = 0;
        for (int i = 0; i < n; i++) {
            for (int j = 0; j < n; j++) {
                sum += Math.abs(costs()[i][j] - savedCosts()[i][j]);
            }
        }
        return sum;
    }

    public int rows() {
        return n;
    }

    public int columns() {
        return m;
    }

    public int forbiddenCount() {
        int count = 0;
        for (boolean[] row : barred) {
            for (boolean bar : row) {
                count += bar ? 1 : 0;
            }
        }
        return count;
    }

    public int totalCost() {
        return total(costs());
    }

    public int minimum() {
        return least(costs());
    }

    public int savedMinimum() {
        return least(savedCosts());
    }

    public int assigned(int row) {
        index(in(row, 0, n - 1));
        return first()[row];
    }

    public int optimalCount() {
        int[][] cost = costs();
        int best = least(cost);
        return (int) ASSIGNMENTS.get(n).stream().filter(p -> sum(cost, p) == best).count();
    }

    public int rowPotential(int row) {
        index(in(row, 0, n - 1));
        int[][] cost = costs();
        int[][] rest = new int[n - 1][n - 1];
        for (int i = 0; i < n - 1; i++) {
            for (int j = 0; j < n - 1; j++) {
                rest[i][j] = cost[i < row ? i : i + 1][j + 1];
            }
        }
        return minimum() - (n == 1 ? 0 : least(rest));
    }

    public int columnPotential(int column) {
        index(in(column, 0, n - 1));
        int smallest = Integer.MAX_VALUE;
        for (int i = 0; i < n; i++) {
            smallest = Math.min(smallest, costs()[i][column] - rowPotential(i));
        }
        return smallest;
    }

    public int reducedCost(int row, int column) {
        index(in(row, 0, n - 1) && in(column, 0, n - 1));
        return costs()[row][column] - rowPotential(row) - columnPotential(column);
    }

    private int leastWhere(int row, int column, boolean used) {
        int[][] cost = costs();
        int best = Integer.MAX_VALUE;
        for (int[] p : ASSIGNMENTS.get(n)) {
            if (p[row] == column == used) {
                best = Math.min(best, sum(cost, p));
            }
        }
        return best == Integer.MAX_VALUE ? NONE : best;
    }

    public int minimumWith(int row, int column) {
        index(in(row, 0, n - 1) && in(column, 0, n - 1));
        return leastWhere(row, column, true);
    }

    public int minimumWithout(int row, int column) {
        index(in(row, 0, n - 1) && in(column, 0, n - 1));
        return leastWhere(row, column, false);
    }

    public int minimumIfCost(int row, int column, int value) {
        index(in(row, 0, n - 1) && in(column, 0, m - 1));
        argument(in(value, 0, 99) || value == 1000);
        int[][] cost = costs();
        cost[row][column] = value;
        return least(cost);
    }

    public int secondBest() {
        int[][] cost = costs();
        int[] first = first();
        int best = Integer.MAX_VALUE;
        for (int[] p : ASSIGNMENTS.get(n)) {
            if (!Arrays.equals(p, first)) {
                best = Math.min(best, sum(cost, p));
            }
        }
        return best == Integer.MAX_VALUE ? NONE : best;
    }

    public int maximum() {
        int[][] cost = costs();
        int best = NONE;
        for (int[] p : ASSIGNMENTS.get(n)) {
            int sum = sum(cost, p);
            best = sum < 1000 ? Math.max(best, sum) : best;
        }
        return best;
    }

    public int bottleneck() {
        int[][] cost = costs();
        int best = Integer.MAX_VALUE;
        for (int[] p : ASSIGNMENTS.get(n)) {
            int greatest = 0;
            for (int i = 0; i < n; i++) {
                greatest = Math.max(greatest, cost[i][p[i]]);
            }
            best = Math.min(best, greatest);
        }
        return best;
    }

    public boolean fits(int limit) {
        argument(in(limit, 0, 1000));
        return bottleneck() <= limit;
    }

    public int countWithin(int limit) {
        argument(in(limit, 0, 7000));
        int[][] cost = costs();
        return (int) ASSIGNMENTS.get(n).stream().filter(p -> sum(cost, p) <= limit).count();
    }

    public int sumOf(int code) {
        for (int[] p : ASSIGNMENTS.get(n)) {
            StringBuilder digits = new StringBuilder();
            for (int column : p) {
                digits.append(column + 1);
            }
            if (digits.toString().equals(Integer.toString(code))) {
                return sum(costs(), p);
            }
        }
        throw new IllegalArgumentException();
    }

    public int startEnumeration() {
        state(n <= 6);
        int[][] cost = costs();
        visits = new ArrayList<>(ASSIGNMENTS.get(n));
        Collections.sort(visits, (p, q) -> sum(cost, p) - sum(cost, q));
        visited = 0;
        return visits.size();
    }

    public int nextSum() {
        state(visits != null);
        if (visited == visits.size()) {
            throw new NoSuchElementException();
        }
        visited++;
        return sum(costs(), visits.get(visited - 1));
    }

    public int currentColumn(int row) {
        index(in(row, 0, n - 1));
        state(visits != null && visited > 0);
        return visits.get(visited - 1)[row];
    }

    public int stepsMade() {
        return visits == null ? NONE : visited;
    }

    public double meanCost() {
        return (double) totalCost() / (double) (n * n);
    }

    public float shareOf(int row) {
        index(in(row, 0, n - 1));
        int least = minimum();
        return least == 0 ? 0 : (float) costs()[row][first()[row]] / (float) least;
    }

    public long checksum() {
        List<Integer> values = new ArrayList<>();
        Collections.addAll(values, n, m, forbiddenCount(), totalCost(), stepsMade());
        addAll(values, costs());
        values.add(minimum());
        addAll(values, new int[][] {first()});
        values.add(savedN);
        values.add(savedM);
        addAll(values, savedCosts());
        long h = 17;
        for (int v : values) {
            h = 31 * h + v;
        }
        return h;
    }

    private static void addAll(List<Integer> values, int[][] cost) {
        for (int[] row : cost) {
            for (int value : row) {
                values.add(value);
            }
        }
    }

    public boolean isSound() {
        int[] first = first();
        int potentials = 0;
        boolean sound = true;
        for (int i = 0; i < n; i++) {
            potentials += rowPotential(i) + columnPotential(i);
            for (int j = 0; j < n; j++) {
                sound &= reducedCost(i, j) >= 0;
            }
            sound &= reducedCost(i, first[i]) == 0;
        }
        int split = minimumWith(0, 0);
        if (n > 1) {
            split = Math.min(split, minimumWithout(0, 0));
        }
        int peak = bottleneck();
        return sound && potentials == minimum() && split == minimum()
            && fits(peak) && (peak == 0 || !fits(peak - 1));
    }
}
