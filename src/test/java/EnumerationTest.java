import java.util.HashSet;
import java.util.NoSuchElementException;
import java.util.Set;

/** Promises 36 to 39: the enumeration. */
public final class EnumerationTest {
    private EnumerationTest() {
    }

    private static int columns(ChoreAssignment x) {
        int code = 0;
        int n = x.rows();
        for (int row = 0; row < n; row++) {
            code = code * 10 + x.currentColumn(row) + 1;
        }
        return code;
    }

    private static void visits(ChoreAssignment x, int[][] due) {
        Check.same("startEnumeration", x.startEnumeration(), due.length);
        Check.same("stepsMade before the first", x.stepsMade(), 0);
        for (int step = 0; step < due.length; step++) {
            Check.same("nextSum " + step, x.nextSum(), due[step][0]);
            Check.same("columns of step " + step, columns(x), due[step][1]);
            Check.same("stepsMade", x.stepsMade(), step + 1);
        }
        Class<NoSuchElementException> ended = NoSuchElementException.class;
        Tables.refused("nextSum after the last", x, ended, x::nextSum);
        Tables.refused("nextSum after the last again", x, ended, x::nextSum);
        Check.same("stepsMade after the last", x.stepsMade(), due.length);
        Check.same("columns after the last", columns(x), due[due.length - 1][1]);
    }

    private static void promise36And37Visits() {
        ChoreAssignment x = Tables.three();
        int[][] due = {{5, 213}, {6, 123}, {6, 321}, {7, 312}, {9, 231}, {11, 132}};
        visits(x, due);
        visits(x, due);
        ChoreAssignment equal = new ChoreAssignment();
        visits(equal, new int[][] {{0, 1}});
        equal.resize(3, 1);
        visits(equal, new int[][] {{0, 123}, {0, 132}, {0, 213}, {0, 231}, {0, 312}, {0, 321}});
        visits(Tables.barred(2), new int[][] {{1000, 12}, {2000, 21}});
    }

    private static void promise36Start() {
        int[] due = {1, 2, 6, 24, 120, 720};
        ChoreAssignment x = new ChoreAssignment();
        for (int n = 1; n <= 6; n++) {
            x.resize(n, n);
            Check.same("startEnumeration of " + n, x.startEnumeration(), due[n - 1]);
        }
        x.nextSum();
        Check.same("start again", x.startEnumeration(), 720);
        Check.same("the active one is abandoned", x.stepsMade(), 0);
        x.resize(7, 1);
        Tables.refused("startEnumeration of 7", x, Tables.STATE, x::startEnumeration);
        Check.same("none is active", x.stepsMade(), -1);
        Tables.refused("nextSum of 7", x, Tables.STATE, x::nextSum);
    }

    /** A table of five rows, of which some assignments were visited. */
    private static ChoreAssignment five(int steps) {
        ChoreAssignment x = new ChoreAssignment();
        x.resize(5, 4);
        x.fill(4711, 5);
        x.setForbidden(2, 2, true);
        x.startEnumeration();
        for (int step = 0; step < steps; step++) {
            x.nextSum();
        }
        return x;
    }

    /** All 120 assignments of 5 rows, each once, in their order. */
    private static void promise37VisitsEachOnce() {
        ChoreAssignment x = five(0);
        ChoreAssignment other = five(0);
        Set<Integer> seen = new HashSet<>();
        int sumBefore = -1;
        int codeBefore = -1;
        for (int step = 0; step < 120; step++) {
            if (step == 60) {
                // An object is good for 512 calls, and looking at a step takes seven.
                x = five(step);
            }
            int sum = x.nextSum();
            int code = columns(x);
            boolean later = sum > sumBefore || (sum == sumBefore && code > codeBefore);
            Check.same("step " + step + " comes later", later, true);
            Check.same("step " + step + " has its sum", other.sumOf(code), sum);
            Check.same("step " + step + " is new", seen.add(code), true);
            sumBefore = sum;
            codeBefore = code;
        }
    }

    /** The greatest sums there are, as all cells of six rows are forbidden. */
    private static void promise37GreatestSums() {
        ChoreAssignment x = new ChoreAssignment();
        x.resize(6, 6);
        for (int cell = 0; cell < 36; cell++) {
            x.setForbidden(cell / 6, cell % 6, true);
        }
        x.startEnumeration();
        Check.same("first of the greatest", x.nextSum(), 6000);
        Check.same("its columns", columns(x), 123456);
        Check.same("second of the greatest", x.nextSum(), 6000);
        Check.same("its columns", columns(x), 123465);
    }

    private static void promise38CurrentColumn() {
        ChoreAssignment x = Tables.three();
        Tables.refused("currentColumn, none active", x, Tables.STATE, () -> x.currentColumn(0));
        Tables.refused("currentColumn both", x, Tables.INDEX, () -> x.currentColumn(3));
        x.startEnumeration();
        Tables.refused("currentColumn, no step", x, Tables.STATE, () -> x.currentColumn(2));
        Tables.refused("currentColumn 3, no step", x, Tables.INDEX, () -> x.currentColumn(3));
        x.nextSum();
        Check.same("currentColumn 0", x.currentColumn(0), 1);
        Check.same("currentColumn 1", x.currentColumn(1), 0);
        Check.same("currentColumn 2", x.currentColumn(2), 2);
        Tables.refused("currentColumn 3", x, Tables.INDEX, () -> x.currentColumn(3));
        for (int wild : Tables.WILD) {
            Tables.refused("currentColumn", x, Tables.INDEX, () -> x.currentColumn(wild));
        }
        x.startEnumeration();
        Tables.refused("currentColumn, again no step", x, Tables.STATE, () -> x.currentColumn(0));
        x.nextSum();
        x.setCost(0, 0, 4);
        Tables.refused("currentColumn, cancelled", x, Tables.STATE, () -> x.currentColumn(0));
    }

    /** Calls that only ask, or that throw, leave the enumeration where it is. */
    private static void promise39StepsMade() {
        ChoreAssignment x = Tables.three();
        Check.same("stepsMade, none active", x.stepsMade(), -1);
        x.startEnumeration();
        x.nextSum();
        x.nextSum();
        x.save();
        x.minimum();
        x.minimumIfCost(0, 0, 0);
        x.secondBest();
        x.maximum();
        x.bottleneck();
        x.countWithin(6);
        x.isSound();
        Tables.refused("setCost", x, Tables.ARGUMENT, () -> x.setCost(0, 0, 100));
        Check.same("stepsMade", x.stepsMade(), 2);
        Check.same("the third visit", x.nextSum(), 6);
        Check.same("its columns", columns(x), 321);
        x.restore();
        Check.same("stepsMade, cancelled", x.stepsMade(), -1);
        x.resize(4, 4);
        Check.same("a new one", x.startEnumeration(), 24);
        Check.same("stepsMade of the new one", x.stepsMade(), 0);
    }

    public static void main(String[] args) {
        promise36And37Visits();
        promise36Start();
        promise37VisitsEachOnce();
        promise37GreatestSums();
        promise38CurrentColumn();
        promise39StepsMade();
        Check.end();
    }
}
