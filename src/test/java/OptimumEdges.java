/** The edges that the promises 20 to 30 name. */
final class OptimumEdges {
    private static final int[][] NO_SUCH_CELL = {{3, 0}, {-1, 0}, {0, -1}, {0, 3}, {3, 3},
        {-1, -1}, {7, 2}, {2, 7}, {Integer.MAX_VALUE, 0}, {0, Integer.MIN_VALUE}};

    private OptimumEdges() {
    }

    static void all() {
        minimumOfAll();
        savedMinimumOfAll();
        assignedAnswers();
        assignedRefuses();
        optimalCounts();
        rowPotentials();
        columnPotentials();
        reducedCosts();
        minimumWithAnswers();
        minimumWithoutAnswers();
        minimumIfCostAnswers();
        minimumIfCostRanges();
        minimumIfCostRefuses();
        secondBests();
    }

    private static void minimumOfAll() {
        Document.says(20, "Returns the minimum.", "Returns the smallest sum of all assignments.");
        Check.same("of a new object", new ChoreAssignment().minimum(), 0);
        Check.same("of one", Tables.of("99").minimum(), 99);
        Check.same("of one forbidden", Tables.of("x0").minimum(), 1000);
        Check.same("greatest of allowed ones", Tables.level(7, 7, 99).minimum(), 693);
        Check.same("greatest", Tables.shut(7, 7).minimum(), 7000);
        Check.same("six idle, one real column shut", Tables.shut(7, 1).minimum(), 1000);
        Check.same("one idle", Tables.of("9 9 / 9 9 / 0 0").minimum(), 9);
        Check.same("idle beside the forbidden", Tables.of("x0 / 7").minimum(), 7);
        Check.same("all shut but one cell", Tables.of("x0 x0 / x0 3").minimum(), 1003);
        Check.same("allowed or not", Tables.of("x0 x0 / 1 2").minimum(), 1001);
        Check.same("dearer but allowed", Tables.of("0 99 / 99 x0").minimum(), 198);
    }

    private static void savedMinimumOfAll() {
        Document.says(21, "Returns the minimum of the saved table.",
            "Returns the smallest sum of all assignments in the saved table.");
        ChoreAssignment x = Tables.of("99");
        Check.same("before any save", x.savedMinimum(), 0);
        x.save();
        x.setCost(0, 0, 1);
        Check.same("not of the table", x.savedMinimum(), 99);
        x.resize(7, 7);
        Check.same("of a smaller saved table", x.savedMinimum(), 99);
        Check.same("then of the table", x.minimum(), 0);
        Tables.put(x, "1 2 / 3 x4");
        x.save();
        x.resize(1, 1);
        Check.same("of a larger saved table", x.savedMinimum(), 5);
        x.restore();
        Check.same("after restore", x.savedMinimum(), 5);
        ChoreAssignment full = Tables.shut(7, 7);
        full.save();
        full.resize(7, 6);
        Check.same("greatest", full.savedMinimum(), 7000);
    }

    private static String assigned(ChoreAssignment x) {
        StringBuilder text = new StringBuilder();
        for (int row = 0; row < x.rows(); row++) {
            text.append(x.assigned(row));
        }
        return text.toString();
    }

    private static void assignedAnswers() {
        Document.says(22, "Returns the column that the first optimal assignment gives a row.",
            "Returns the column.");
        Check.same("one", assigned(new ChoreAssignment()), "0");
        Check.same("one forbidden", assigned(Tables.of("x9")), "0");
        Check.same("all equal", assigned(Tables.level(7, 7, 4)), "0123456");
        Check.same("all forbidden", assigned(Tables.shut(7, 7)), "0123456");
        Check.same("the last one of 2", assigned(Tables.of("1 0 / 0 1")), "10");
        Check.same("equal sums of 2", assigned(Tables.of("3 1 / 5 3")), "01");
        Check.same("row 0 first, then row 1", assigned(Tables.of("1 1 1 / 1 1 0 / 1 0 1")), "021");
        Check.same("a dummy column comes last", assigned(Tables.of("0 / 0 / 0")), "012");
        Check.same("idle though the first", assigned(Tables.of("1 / 1 / 0")), "120");
        Check.same("idle in order", assigned(Tables.of("9 9 / 9 9 / 0 9 / 9 0")), "2301");
    }

    private static void assignedRefuses() {
        Document.says(22, "- `row`: 0 to n - 1",
            "Throws `IndexOutOfBoundsException` if there is no such row");
        Ranges.upToN("assigned", (x, row) -> x.assigned(row));
        for (int row : new int[] {-1, 3, 7, Integer.MIN_VALUE, Integer.MAX_VALUE}) {
            Whole.refused("assigned " + row, Tables::midway, Tables.INDEX, x -> x.assigned(row));
        }
    }

    private static void optimalCounts() {
        Document.says(23, "Counts the optimal assignments.",
            "Returns the number of optimal assignments.");
        int[] all = {1, 2, 6, 24, 120, 720, 5040};
        for (int n = 1; n <= 7; n++) {
            Check.same("all are optimal", Tables.level(n, n, 99).optimalCount(), all[n - 1]);
            Check.same("none is allowed", Tables.shut(n, n).optimalCount(), all[n - 1]);
            Check.same("idle ones", Tables.level(n, 1, 5).optimalCount(), all[n - 1]);
        }
        Check.same("the only one", Tables.of("0 1 / 1 0").optimalCount(), 1);
        Check.same("all but two", Tables.of("0 0 0 / 0 0 0 / 0 0 1").optimalCount(), 4);
        Check.same("by sum, not by cell", Tables.of("3 1 / 5 3").optimalCount(), 2);
        ChoreAssignment x = Tables.level(7, 7, 0);
        x.setCost(6, 6, 1);
        Check.same("all but 720", x.optimalCount(), 4320);
    }

    private static void rowPotentials() {
        Document.says(24, "Returns the potential of a row.", "Returns its potential.");
        Check.same("of one", Tables.of("42").rowPotential(0), 42);
        Check.same("of one forbidden", Tables.of("x42").rowPotential(0), 1000);
        // The minimum is 4 + 9; without column 0 and row 0 the rest costs 9, without row 1 30.
        ChoreAssignment x = Tables.of("4 30 / 20 9");
        Check.same("of row 0", x.rowPotential(0), 4);
        Check.same("of row 1", x.rowPotential(1), -17);
        ChoreAssignment shut = Tables.shut(7, 7);
        Check.same("of none allowed, row 0", shut.rowPotential(0), 1000);
        Check.same("of none allowed, row 6", shut.rowPotential(6), 1000);
        Document.says(24, "- `row`: 0 to n - 1",
            "Throws `IndexOutOfBoundsException` if there is no such row");
        Ranges.upToN("rowPotential", (y, row) -> y.rowPotential(row));
        for (int row : new int[] {-1, 3, 7, Integer.MIN_VALUE, Integer.MAX_VALUE}) {
            Whole.refused("rowPotential " + row, Tables::midway, Tables.INDEX,
                y -> y.rowPotential(row));
        }
    }

    private static void columnPotentials() {
        Document.says(25, "Returns the potential of a column.", "Returns its potential.");
        Check.same("of one", Tables.of("42").columnPotential(0), 0);
        Check.same("of one forbidden", Tables.of("x42").columnPotential(0), 0);
        // The rows have 4 and -17: column 0 has 4 - 4 and 20 + 17, column 1 has 30 - 4 and 9 + 17.
        Check.same("of column 0", Tables.of("4 30 / 20 9").columnPotential(0), 0);
        Check.same("of column 1", Tables.of("4 30 / 20 9").columnPotential(1), 26);
        Check.same("of a dummy column", Tables.of("5 / 3").columnPotential(1), -3);
        Check.same("of the last one of seven", Tables.shut(7, 6).columnPotential(6), -1000);
        Document.says(25, "- `column`: 0 to n - 1",
            "Throws `IndexOutOfBoundsException` if there is no such column");
        Ranges.upToN("columnPotential", (y, column) -> y.columnPotential(column));
        for (int column : new int[] {-1, 3, 7, Integer.MIN_VALUE, Integer.MAX_VALUE}) {
            Whole.refused("columnPotential " + column, Tables::midway, Tables.INDEX,
                y -> y.columnPotential(column));
        }
    }

    private static void reducedCosts() {
        Document.says(26, "Returns the reduced cost of a cell.", "Returns its reduced cost.");
        Check.same("of one", Tables.of("42").reducedCost(0, 0), 0);
        Check.same("of one forbidden", Tables.of("x42").reducedCost(0, 0), 0);
        ChoreAssignment x = Tables.of("4 30 / 20 9");
        int[][] due = {{0, 0}, {37, 0}};
        for (int cell = 0; cell < 4; cell++) {
            Check.same("of " + cell / 2 + " " + cell % 2, x.reducedCost(cell / 2, cell % 2),
                due[cell / 2][cell % 2]);
        }
        Check.same("of a forbidden cell", Tables.of("x0 0 / 0 0").reducedCost(0, 0), 1000);
        Check.same("of one with dear potentials", Tables.of("0 0 / 0 x0").reducedCost(1, 1), 0);
        Check.same("of a dummy cell", Tables.of("5 / 3").reducedCost(1, 1), 0);
        Document.says(26, "- `row`: 0 to n - 1");
        Ranges.upToN("reducedCost row", (y, row) -> y.reducedCost(row, 0));
        Document.says(26, "- `column`: 0 to n - 1");
        Ranges.upToN("reducedCost column", (y, column) -> y.reducedCost(0, column));
        Document.says(26, "Throws `IndexOutOfBoundsException` if there is no such row or column");
        refusesCells("reducedCost", (y, cell) ->
            y.reducedCost(NO_SUCH_CELL[cell][0], NO_SUCH_CELL[cell][1]));
    }

    /** A call with a cell of NO_SUCH_CELL, by its index. */
    private static void refusesCells(String what, Ranges.IndexCall call) {
        for (int index = 0; index < NO_SUCH_CELL.length; index++) {
            int cell = index;
            String wrong = what + " " + NO_SUCH_CELL[cell][0] + " " + NO_SUCH_CELL[cell][1];
            Whole.refused(wrong, Tables::midway, Tables.INDEX, x -> call.on(x, cell));
        }
    }

    private static void minimumWithAnswers() {
        Document.says(27, "Returns the minimum with a cell: the smallest sum of all assignments "
            + "that use it.", "Returns that sum.");
        Check.same("of one", Tables.of("42").minimumWith(0, 0), 42);
        Check.same("of one forbidden", Tables.of("x42").minimumWith(0, 0), 1000);
        ChoreAssignment x = Tables.of("1 x2 / 4 8");
        Check.same("of 2, on it", x.minimumWith(0, 0), 9);
        Check.same("of 2, the last one", x.minimumWith(1, 1), 9);
        Check.same("of 2, off it", x.minimumWith(1, 0), 1004);
        Check.same("a forbidden cell", x.minimumWith(0, 1), 1004);
        Check.same("none allowed", Tables.shut(7, 7).minimumWith(6, 6), 7000);
        Check.same("a dummy cell", Tables.of("5 / 3").minimumWith(1, 1), 5);
        Check.same("greatest numbers", Tables.level(7, 7, 99).minimumWith(0, 6), 693);
        Document.says(27, "- `row`: 0 to n - 1");
        Ranges.upToN("minimumWith row", (y, row) -> y.minimumWith(row, 0));
        Document.says(27, "- `column`: 0 to n - 1");
        Ranges.upToN("minimumWith column", (y, column) -> y.minimumWith(0, column));
        Document.says(27, "Throws `IndexOutOfBoundsException` if there is no such row or column");
        refusesCells("minimumWith", (y, cell) ->
            y.minimumWith(NO_SUCH_CELL[cell][0], NO_SUCH_CELL[cell][1]));
    }

    private static void minimumWithoutAnswers() {
        Document.says(28, "Returns the minimum without a cell: the smallest sum of all assignments "
            + "that do not use it.", "Returns that sum; NONE if n = 1.");
        Check.same("of one", Tables.of("42").minimumWithout(0, 0), -1);
        Check.same("of one forbidden", Tables.of("x42").minimumWithout(0, 0), -1);
        ChoreAssignment x = Tables.of("1 x2 / 4 8");
        Check.same("of 2, on the best", x.minimumWithout(0, 0), 1004);
        Check.same("of 2, off the best", x.minimumWithout(1, 0), 9);
        Check.same("of 2, a forbidden cell", x.minimumWithout(0, 1), 9);
        Check.same("of 2 zeros", Tables.of("0 0 / 0 0").minimumWithout(1, 1), 0);
        Check.same("none allowed", Tables.shut(7, 7).minimumWithout(6, 6), 7000);
        Check.same("a dummy cell", Tables.of("5 / 3").minimumWithout(0, 1), 5);
        Check.same("greatest numbers", Tables.level(7, 7, 99).minimumWithout(6, 0), 693);
        Document.says(28, "- `row`: 0 to n - 1");
        Ranges.upToN("minimumWithout row", (y, row) -> y.minimumWithout(row, 0));
        Document.says(28, "- `column`: 0 to n - 1");
        Ranges.upToN("minimumWithout column", (y, column) -> y.minimumWithout(0, column));
        Document.says(28, "Throws `IndexOutOfBoundsException` if there is no such row or column");
        refusesCells("minimumWithout", (y, cell) ->
            y.minimumWithout(NO_SUCH_CELL[cell][0], NO_SUCH_CELL[cell][1]));
        for (int wrong : new int[] {-1, 1}) {
            Whole.refused("of one, no such row", () -> Tables.of("5"), Tables.INDEX,
                y -> y.minimumWithout(wrong, 0));
            Whole.refused("of one, no such column", () -> Tables.of("5"), Tables.INDEX,
                y -> y.minimumWithout(0, wrong));
        }
    }

    private static void minimumIfCostAnswers() {
        Document.says(29, "Returns what the minimum would be if a cell had another cost.",
            "Returns the minimum of that table.");
        Check.same("of one, 0", Tables.of("42").minimumIfCost(0, 0, 0), 0);
        Check.same("of one, 99", Tables.of("42").minimumIfCost(0, 0, 99), 99);
        Check.same("of one, 1000", Tables.of("42").minimumIfCost(0, 0, 1000), 1000);
        Check.same("of one, the same", Tables.of("42").minimumIfCost(0, 0, 42), 42);
        Check.same("of one forbidden, 7", Tables.of("x42").minimumIfCost(0, 0, 7), 7);
        Check.same("of one forbidden, 1000", Tables.of("x42").minimumIfCost(0, 0, 1000), 1000);
        Check.same("1000 for the best", Tables.of("1 x2 / 4 8").minimumIfCost(0, 0, 1000), 1004);
        Check.same("99 for the best", Tables.of("1 x2 / 4 8").minimumIfCost(1, 1, 99), 100);
        Check.same("0 off the best", Tables.of("1 x2 / 4 8").minimumIfCost(0, 1, 0), 4);
        Check.same("beside a dummy column", Tables.of("5 / 3").minimumIfCost(1, 0, 9), 5);
        Check.same("all shut, one opened", Tables.shut(7, 7).minimumIfCost(6, 6, 0), 6000);
        Document.says(29, "Nothing changes.");
        for (int cost : new int[] {0, 99, 1000}) {
            Whole.keeps("minimumIfCost of the best, " + cost, Tables::midway,
                cost == 0 ? 2 : 6, x -> x.minimumIfCost(1, 0, cost));
            Whole.keeps("minimumIfCost of a forbidden cell, " + cost, Tables::midway,
                cost == 0 ? 2 : 3, x -> x.minimumIfCost(1, 1, cost));
        }
    }

    private static void minimumIfCostRanges() {
        Document.says(29, "- `row`: 0 to n - 1");
        Ranges.upToN("minimumIfCost row", (x, row) -> x.minimumIfCost(row, 0, 1000));
        Document.says(29, "- `column`: index of a real column");
        Ranges.upToM("minimumIfCost column", (x, column) -> x.minimumIfCost(0, column, 1000));
        Document.says(29, "- `cost`: 0 to 99, or 1000");
        for (int cost = 0; cost <= 99; cost++) {
            Check.same("cost " + cost, Tables.of("42").minimumIfCost(0, 0, cost), cost);
        }
        Check.same("cost 1000", Tables.of("42").minimumIfCost(0, 0, 1000), 1000);
        Document.says(29, "Throws `IllegalArgumentException` if cost is none of these");
        int[] wrong = {-1, 100, 101, 999, 1001, -99, -1000, 500, 2000, 1000 + 65536,
            Integer.MIN_VALUE, Integer.MAX_VALUE};
        for (int cost : wrong) {
            Whole.refused("minimumIfCost " + cost, Tables::midway, Tables.ARGUMENT,
                x -> x.minimumIfCost(0, 0, cost));
            Whole.refused("minimumIfCost of a forbidden cell " + cost, Tables::midway,
                Tables.ARGUMENT, x -> x.minimumIfCost(1, 1, cost));
            Whole.refused("minimumIfCost of one " + cost, () -> Tables.of("5"), Tables.ARGUMENT,
                x -> x.minimumIfCost(0, 0, cost));
        }
    }

    private static void minimumIfCostRefuses() {
        Document.says(29, "Throws `IndexOutOfBoundsException` if there is no such row or real "
            + "column");
        int[][] cells = {{0, 2}, {2, 2}, {3, 2}, {3, 0}, {-1, 0}, {0, -1}, {7, 1}, {-1, 2}};
        for (int[] cell : cells) {
            for (int cost : new int[] {0, 1000, 100, -1}) {
                Whole.refused("minimumIfCost " + cell[0] + " " + cell[1] + " " + cost,
                    Tables::midway, Tables.INDEX, x -> x.minimumIfCost(cell[0], cell[1], cost));
            }
        }
    }

    private static void secondBests() {
        Document.says(30, "Returns the second best sum.", "Returns the smallest sum of all "
            + "assignments other than the first optimal assignment; NONE if n = 1.");
        Check.same("of one", Tables.of("42").secondBest(), -1);
        Check.same("of one forbidden", Tables.of("x42").secondBest(), -1);
        Check.same("of a new object", new ChoreAssignment().secondBest(), -1);
        Check.same("of 2", Tables.of("1 2 / 4 8").secondBest(), 9);
        Check.same("of 2 equal ones", Tables.of("3 1 / 5 3").secondBest(), 6);
        Check.same("of 2, not allowed", Tables.of("1 x2 / 4 8").secondBest(), 1004);
        Check.same("of 2, both not allowed", Tables.shut(2, 2).secondBest(), 2000);
        Check.same("of zeros", Tables.level(7, 7, 0).secondBest(), 0);
        Check.same("of all shut", Tables.shut(7, 7).secondBest(), 7000);
        Check.same("idle ones changed round", Tables.of("5 / 9 / 9").secondBest(), 5);
        Check.same("one real column of two", Tables.of("5 / 3").secondBest(), 5);
    }
}
