/** Promises 20 to 30: optimal assignments. */
public final class OptimumTest {
    private OptimumTest() {
    }

    private static void promise20And21Minimum() {
        ChoreAssignment x = Tables.three();
        Check.same("minimum", x.minimum(), 5);
        Check.same("savedMinimum of the first table", x.savedMinimum(), 0);
        x.save();
        x.setForbidden(0, 1, true);
        Check.same("minimum beside a forbidden cell", x.minimum(), 6);
        Check.same("savedMinimum", x.savedMinimum(), 5);
        Check.same("minimum with a dummy column", Tables.idle().minimum(), 3);
        Check.same("minimum of none allowed", Tables.barred(3).minimum(), 1000);
        ChoreAssignment full = new ChoreAssignment();
        full.resize(7, 7);
        for (int cell = 0; cell < 49; cell++) {
            full.setForbidden(cell / 7, cell % 7, true);
        }
        Check.same("greatest minimum", full.minimum(), 7000);
        full.save();
        full.resize(2, 1);
        Check.same("savedMinimum of another size", full.savedMinimum(), 7000);
    }

    private static String assigned(ChoreAssignment x) {
        StringBuilder text = new StringBuilder();
        for (int row = 0; row < x.rows(); row++) {
            text.append(x.assigned(row));
        }
        return text.toString();
    }

    private static void promise22Assigned() {
        ChoreAssignment x = Tables.three();
        Check.same("assigned", assigned(x), "102");
        x.setCost(0, 0, 3);
        Check.same("assigned, the first of two", assigned(x), "012");
        x.resize(7, 7);
        Check.same("assigned, all equal", assigned(x), "0123456");
        Check.same("assigned with a dummy column", assigned(Tables.idle()), "201");
        Check.same("assigned of none allowed", assigned(Tables.barred(3)), "012");
        ChoreAssignment three = Tables.three();
        Tables.refused("assigned 3", three, Tables.INDEX, () -> three.assigned(3));
        for (int wild : Tables.WILD) {
            Tables.refused("assigned", three, Tables.INDEX, () -> three.assigned(wild));
        }
    }

    private static void promise23OptimalCount() {
        ChoreAssignment x = Tables.three();
        Check.same("optimalCount", x.optimalCount(), 1);
        x.setCost(0, 0, 3);
        Check.same("optimalCount of 2", x.optimalCount(), 2);
        x.resize(7, 7);
        Check.same("optimalCount of all", x.optimalCount(), 5040);
        x.resize(4, 1);
        Check.same("dummy columns are apart", x.optimalCount(), 24);
        Check.same("those not allowed count", Tables.barred(3).optimalCount(), 2);
    }

    private static void promise24To26Potentials() {
        ChoreAssignment x = Tables.three();
        int[] rows = {3, 2, 2};
        int[] columns = {0, -2, 0};
        int[][] reduced = {{1, 0, 0}, {0, 0, 3}, {1, 2, 0}};
        for (int row = 0; row < 3; row++) {
            Check.same("rowPotential " + row, x.rowPotential(row), rows[row]);
            Check.same("columnPotential " + row, x.columnPotential(row), columns[row]);
            for (int column = 0; column < 3; column++) {
                Check.same("reducedCost " + row + " " + column,
                    x.reducedCost(row, column), reduced[row][column]);
            }
        }
        ChoreAssignment one = new ChoreAssignment();
        one.setCost(0, 0, 7);
        Check.same("rowPotential of one", one.rowPotential(0), 7);
        Check.same("columnPotential of one", one.columnPotential(0), 0);
        Check.same("reducedCost of one", one.reducedCost(0, 0), 0);
        promise24To26OfADummyColumn();
        promise24To26Refused(x);
    }

    /** The other rows to columns 1 and 2 cost 2, 2 and 6; the minimum is 3. */
    private static void promise24To26OfADummyColumn() {
        ChoreAssignment x = Tables.idle();
        Check.same("rowPotential 0, idle", x.rowPotential(0), 1);
        Check.same("rowPotential 1, idle", x.rowPotential(1), 1);
        Check.same("rowPotential 2, idle", x.rowPotential(2), -3);
        Check.same("columnPotential of a dummy", x.columnPotential(2), -1);
        Check.same("reducedCost of a dummy", x.reducedCost(2, 2), 4);
        // On objects that have found no potentials yet.
        Check.same("columnPotential at once", Tables.three().columnPotential(1), -2);
        Check.same("reducedCost at once", Tables.idle().reducedCost(2, 2), 4);
    }

    private static void promise24To26Refused(ChoreAssignment x) {
        int[] wrong = {3, -1, Integer.MIN_VALUE, Integer.MAX_VALUE};
        for (int index : wrong) {
            Tables.refused("rowPotential", x, Tables.INDEX, () -> x.rowPotential(index));
            Tables.refused("columnPotential", x, Tables.INDEX, () -> x.columnPotential(index));
            Tables.refused("reducedCost row", x, Tables.INDEX, () -> x.reducedCost(index, 0));
            Tables.refused("reducedCost column", x, Tables.INDEX, () -> x.reducedCost(0, index));
        }
    }

    private static void promise27And28WithAndWithout() {
        ChoreAssignment x = Tables.three();
        int[][] with = {{6, 5, 6}, {5, 6, 9}, {6, 7, 5}};
        int[][] without = {{5, 6, 5}, {6, 5, 5}, {5, 5, 6}};
        for (int row = 0; row < 3; row++) {
            for (int column = 0; column < 3; column++) {
                String cell = " " + row + " " + column;
                Check.same("minimumWith" + cell, x.minimumWith(row, column), with[row][column]);
                Check.same("minimumWithout" + cell,
                    x.minimumWithout(row, column), without[row][column]);
            }
        }
        ChoreAssignment idle = Tables.idle();
        Check.same("minimumWith a dummy cell", idle.minimumWith(2, 2), 8);
        Check.same("minimumWithout a dummy cell", idle.minimumWithout(0, 2), 6);
        ChoreAssignment one = new ChoreAssignment();
        one.setForbidden(0, 0, true);
        Check.same("minimumWith of one", one.minimumWith(0, 0), 1000);
        Check.same("minimumWithout of one", one.minimumWithout(0, 0), -1);
        ChoreAssignment barred = Tables.barred(2);
        Check.same("minimumWith a forbidden cell", barred.minimumWith(0, 0), 1000);
        Check.same("minimumWithout, none allowed", barred.minimumWithout(0, 0), 2000);
        int[] wrong = {3, -1, Integer.MIN_VALUE, Integer.MAX_VALUE};
        for (int index : wrong) {
            Tables.refused("minimumWith row", x, Tables.INDEX, () -> x.minimumWith(index, 0));
            Tables.refused("minimumWith column", x, Tables.INDEX, () -> x.minimumWith(0, index));
            Tables.refused("minimumWithout row", x, Tables.INDEX,
                () -> x.minimumWithout(index, 0));
            Tables.refused("minimumWithout column", x, Tables.INDEX,
                () -> x.minimumWithout(0, index));
            Tables.refused("minimumWithout of one", one, Tables.INDEX,
                () -> one.minimumWithout(index, 0));
        }
        Tables.refused("minimumWithout of one", one, Tables.INDEX, () -> one.minimumWithout(0, 1));
    }

    private static void promise29MinimumIfCost() {
        ChoreAssignment x = Tables.three();
        x.startEnumeration();
        long before = x.checksum();
        Check.same("minimumIfCost more", x.minimumIfCost(0, 1, 99), 6);
        Check.same("minimumIfCost 1000", x.minimumIfCost(0, 1, 1000), 6);
        Check.same("minimumIfCost less", x.minimumIfCost(1, 1, 0), 5);
        Check.same("minimumIfCost 0", x.minimumIfCost(0, 0, 0), 2);
        Check.same("nothing changes", x.checksum(), before);
        x.setForbidden(0, 1, true);
        Check.same("minimumIfCost of a forbidden cell", x.minimumIfCost(0, 1, 0), 4);
        Check.same("still forbidden", x.costAt(0, 1), 1000);
        int[] costs = {100, 999, 1001, -1, Integer.MIN_VALUE, Integer.MAX_VALUE};
        for (int cost : costs) {
            Tables.refused("minimumIfCost " + cost, x, Tables.ARGUMENT,
                () -> x.minimumIfCost(0, 0, cost));
        }
        ChoreAssignment idle = Tables.idle();
        Tables.refused("minimumIfCost dummy", idle, Tables.INDEX,
            () -> idle.minimumIfCost(0, 2, 5));
        Tables.refused("minimumIfCost row", idle, Tables.INDEX,
            () -> idle.minimumIfCost(3, 0, 100));
        for (int wild : Tables.WILD) {
            Tables.refused("minimumIfCost row", x, Tables.INDEX,
                () -> x.minimumIfCost(wild, 0, 100));
            Tables.refused("minimumIfCost column", x, Tables.INDEX,
                () -> x.minimumIfCost(0, wild, 100));
        }
    }

    private static void promise30SecondBest() {
        ChoreAssignment x = Tables.three();
        Check.same("secondBest", x.secondBest(), 6);
        x.setCost(0, 0, 3);
        Check.same("secondBest of two optimal ones", x.secondBest(), 5);
        Check.same("secondBest of one", new ChoreAssignment().secondBest(), -1);
        Check.same("secondBest with a dummy column", Tables.idle().secondBest(), 6);
        ChoreAssignment lone = new ChoreAssignment();
        lone.resize(2, 1);
        lone.setCost(0, 0, 3);
        Check.same("secondBest of one real column", lone.secondBest(), 3);
        lone.resize(3, 1);
        lone.setRow(0, 8L);
        lone.setRow(1, 8L);
        Check.same("secondBest changes rows 0 and 1 alone", lone.secondBest(), 0);
        ChoreAssignment barred = Tables.barred(2);
        Check.same("secondBest, none allowed", barred.secondBest(), 2000);
        barred.setForbidden(0, 0, false);
        Check.same("secondBest not allowed", barred.secondBest(), 2000);
    }

    public static void main(String[] args) {
        promise20And21Minimum();
        promise22Assigned();
        promise23OptimalCount();
        promise24To26Potentials();
        promise27And28WithAndWithout();
        promise29MinimumIfCost();
        promise30SecondBest();
        Check.end();
    }
}
