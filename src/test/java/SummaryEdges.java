import java.math.BigInteger;
import java.util.ArrayList;
import java.util.List;

/** The edges that the promises 40 to 43 name. */
final class SummaryEdges {
    private SummaryEdges() {
    }

    static void all() {
        meanCosts();
        shares();
        shareOfNothing();
        shareRefuses();
        checksumOfTheSmallest();
        checksumOverflows();
        checksumOrder();
        soundAtEdges();
        soundChangesNothing();
    }

    private static void meanCosts() {
        Document.says(40, "Returns the mean cost.", "Returns the sum of all n * n costs, converted "
            + "to double, divided by n * n, converted to double.");
        Check.same("of a new object", new ChoreAssignment().meanCost(), 0.0);
        Check.same("of one", Tables.of("99").meanCost(), 99.0);
        Check.same("of one forbidden", Tables.of("x99").meanCost(), 1000.0);
        Check.same("of the greatest", Tables.shut(7, 7).meanCost(), 1000.0);
        Check.same("below 1", Tables.of("0 0 / 0 1").meanCost(), 0.25);
        Check.same("a third", Tables.of("1 1 1 / 0 0 0 / 0 0 0").meanCost(), 3.0 / 9.0);
        Check.same("divided by all cells", Tables.level(7, 1, 1).meanCost(), 7.0 / 49.0);
        Check.same("of seven", Tables.level(7, 6, 99).meanCost(), 4158.0 / 49.0);
    }

    private static void shares() {
        Document.says(41, "Returns the share of a row in the minimum.", "Returns the cost of its "
            + "cell in the first optimal assignment, converted to float, divided by the minimum, "
            + "converted to float;");
        Check.same("of one", Tables.of("42").shareOf(0), 1.0f);
        Check.same("of one forbidden", Tables.of("x42").shareOf(0), 1.0f);
        Check.same("of seven", Tables.level(7, 7, 99).shareOf(6), 99.0f / 693.0f);
        Check.same("of all shut", Tables.shut(7, 7).shareOf(6), 1000.0f / 7000.0f);
        Check.same("a share 0", Tables.of("0 1 / 1 7").shareOf(0), 1.0f / 2.0f);
        Check.same("an idle row", Tables.of("5 / 3").shareOf(0), 0.0f);
        Check.same("a row that works alone", Tables.of("5 / 3").shareOf(1), 1.0f);
        Check.same("of the first of two optimal ones", Tables.of("3 1 / 5 3").shareOf(0),
            3.0f / 6.0f);
    }

    private static void shareOfNothing() {
        Document.says(41, "0 if the minimum is 0.");
        Check.same("of a new object", new ChoreAssignment().shareOf(0), 0.0f);
        Check.same("of seven", Tables.level(7, 7, 0).shareOf(6), 0.0f);
        Check.same("beside other costs", Tables.of("9 0 / 0 9").shareOf(1), 0.0f);
        Check.same("an idle row", Tables.of("5 / 0").shareOf(0), 0.0f);
    }

    private static void shareRefuses() {
        Document.says(41, "- `row`: 0 to n - 1",
            "Throws `IndexOutOfBoundsException` if there is no such row");
        Ranges.upToN("shareOf", (x, row) -> x.shareOf(row));
        for (int row : new int[] {-1, 3, 7, Integer.MIN_VALUE, Integer.MAX_VALUE}) {
            Whole.refused("shareOf " + row, Tables::midway, Tables.INDEX, x -> x.shareOf(row));
            Whole.refused("shareOf " + row + ", minimum 0", () -> Tables.level(3, 3, 0),
                Tables.INDEX, x -> x.shareOf(row));
        }
    }

    /** The checksum of these numbers without any overflow, cut down to a long at the very end. */
    private static long folded(List<Integer> values) {
        BigInteger h = BigInteger.valueOf(17);
        for (int v : values) {
            h = h.multiply(BigInteger.valueOf(31)).add(BigInteger.valueOf(v));
        }
        return h.longValue();
    }

    private static void checksumOfTheSmallest() {
        Document.says(42, "Returns a checksum. Let h be 17.", "Returns h.");
        ChoreAssignment x = new ChoreAssignment();
        Check.same("of a new object", x.checksum(), folded(List.of(1, 1, 0, 0, -1, 0, 0, 0, 1, 1,
            0)));
        x.setForbidden(0, 0, true);
        x.startEnumeration();
        Check.same("of one forbidden", x.checksum(), folded(List.of(1, 1, 1, 1000, 0, 1000, 1000,
            0, 1, 1, 0)));
        x.nextSum();
        Check.same("after a step", x.checksum(), folded(List.of(1, 1, 1, 1000, 1, 1000, 1000, 0, 1,
            1, 0)));
    }

    private static void checksumOverflows() {
        Document.says(42, "h is replaced by 31 h + v (with the overflow of a long):");
        ChoreAssignment x = Tables.shut(7, 7);
        x.save();
        List<Integer> values = new ArrayList<>(List.of(7, 7, 49, 49000, -1));
        addTimes(values, 49, 1000);
        values.addAll(List.of(7000, 0, 1, 2, 3, 4, 5, 6, 7, 7));
        addTimes(values, 49, 1000);
        Check.same("of the greatest", x.checksum(), folded(values));
        x.resize(7, 1);
        values = new ArrayList<>(List.of(7, 1, 0, 0, -1));
        addTimes(values, 49, 0);
        values.addAll(List.of(0, 0, 1, 2, 3, 4, 5, 6, 7, 7));
        addTimes(values, 49, 1000);
        Check.same("of zeros", x.checksum(), folded(values));
    }

    private static void addTimes(List<Integer> values, int times, int value) {
        for (int time = 0; time < times; time++) {
            values.add(value);
        }
    }

    private static void checksumOrder() {
        Document.says(42, "For each of the following numbers v, in this order,",
            "rows(), columns(), forbiddenCount(), totalCost(), stepsMade(); all costs, row by row; "
            + "the minimum; assigned(row) for each row; n and m of the saved table; all costs of "
            + "the saved table, row by row.");
        Check.same("midway", Tables.midway().checksum(), folded(List.of(3, 2, 1, 1016, 2, 4, 7, 0,
            1, 1000, 0, 2, 2, 0, 3, 2, 0, 1, 2, 2, 5, 1000, 8, 9)));
        ChoreAssignment x = Tables.of("1 / 2 / 3");
        x.save();
        x.resize(2, 2);
        Check.same("a larger saved table", x.checksum(), folded(List.of(2, 2, 0, 0, -1, 0, 0, 0, 0,
            0, 0, 1, 3, 1, 1, 0, 0, 2, 0, 0, 3, 0, 0)));
    }

    private static void soundAtEdges() {
        Document.says(43, "Checks parts of the theorem for the table.", "Returns whether all of "
            + "the following holds: the potentials add up to the minimum; no reduced cost is "
            + "negative; the cells of the first optimal assignment have reduced cost 0; the "
            + "minimum is the smaller one of minimumWith(0, 0) and minimumWithout(0, 0) "
            + "(minimumWith(0, 0) itself if n = 1); fits is true for the bottleneck, and false for "
            + "the bottleneck minus 1 if that is not negative.");
        String[] edges = {"0", "1", "99", "x0", "0 0 / 0 0", "0 0 / 0 x0", "x0 x0 / x0 x0",
            "x0 99 / 99 x0", "5 / 3", "x5 / 3", "x5 / x3", "x0 x0 / 9 8 / 7 5", "1 2 / 4 8"};
        for (String cells : edges) {
            Check.same("isSound of " + cells, Tables.of(cells).isSound(), true);
        }
        for (int n = 1; n <= 7; n++) {
            for (int m = 1; m <= n; m++) {
                Check.same("of zeros", Tables.level(n, m, 0).isSound(), true);
                Check.same("of 99s", Tables.level(n, m, 99).isSound(), true);
                Check.same("of all shut", Tables.shut(n, m).isSound(), true);
            }
        }
    }

    private static void soundChangesNothing() {
        Document.says(43, "Nothing changes.");
        Whole.keeps("isSound midway", Tables::midway, true, ChoreAssignment::isSound);
        Whole.keeps("isSound of all shut", () -> Tables.shut(7, 7), true,
            ChoreAssignment::isSound);
        Whole.keeps("isSound of a new object", ChoreAssignment::new, true,
            ChoreAssignment::isSound);
    }
}
