import java.util.LinkedHashMap;
import java.util.Map;
import java.util.NoSuchElementException;

/** The edges that "What it is" and "Terms" name. */
final class TermsEdges {
    private static final String T = Document.TERMS;
    private static final String[] TABLES = {"0", "42", "x42", "0 0 / 0 0", "1 x2 / 4 8", "5 / 3",
        "x5 / x3", "x0 0 / 0 0", "0 0 / 0 x0", "4 1 3 / 2 0 5 / 3 2 2", "4 7 / 1 x6 / 2 2",
        "x0 x0 99 / x0 x0 99 / 99 99 99", "3 1 4 1 / 5 9 2 6 / 5 3 5 8 / 9 7 9 3",
        "7 7 / 7 7 / 7 7 / 7 7", "x1 2 2 / 3 x4 5 / 6 7 x8 / 1 1 1"};

    private TermsEdges() {
    }

    static void all() {
        callsOfAnObject();
        constants();
        minimumAndDistance();
        minimumWithAndReducedCost();
        minimumWithAndWithout();
        maximumAndMinimum();
        bottleneckAndFits();
        enumerationAndCounts();
        sizes();
        dummyColumns();
        numbersOfCells();
        costsOfCells();
        initially();
        assignments();
        allowed();
        lexicographically();
        minimumOfAll();
        secondBest();
        potentials();
        negativePotentials();
        orderOfVisits();
        cancelled();
        notCancelled();
        throwingChangesNothing();
        firstDocumentedIsThrown();
    }

    private static void callsOfAnObject() {
        Document.says("What it is", "An object is used for at most 512 calls after it has been "
            + "made;");
        ChoreAssignment x = new ChoreAssignment();
        x.resize(6, 6);
        x.startEnumeration();
        for (int call = 3; call <= 511; call++) {
            Check.same("nextSum, call " + call, x.nextSum(), 0);
        }
        Check.same("stepsMade, call 512", x.stepsMade(), 509);
        ChoreAssignment y = new ChoreAssignment();
        y.resize(7, 7);
        for (int call = 2; call <= 511; call++) {
            Check.same("fill, call " + call, y.fill(0, 99), 2400);
        }
        Check.same("isSound, call 512", y.isSound(), true);
        ChoreAssignment z = Tables.of("42");
        for (int call = 3; call <= 511; call++) {
            Check.fails("setCost, call " + call, Tables.ARGUMENT, () -> z.setCost(0, 0, 100));
        }
        Check.same("minimum, call 512", z.minimum(), 42);
        ChoreAssignment w = new ChoreAssignment();
        w.resize(6, 6);
        for (int call = 2; call <= 512; call++) {
            Check.same("startEnumeration, call " + call, w.startEnumeration(), 720);
        }
    }

    private static void constants() {
        Document.says(T, "The constants: `NONE = -1`: Result of a method if there is no such "
            + "value.");
        Check.same("NONE", ChoreAssignment.NONE, -1);
        ChoreAssignment x = Tables.of("x42");
        Check.same("secondBest", x.secondBest(), ChoreAssignment.NONE);
        Check.same("maximum", x.maximum(), ChoreAssignment.NONE);
        Check.same("minimumWithout", x.minimumWithout(0, 0), ChoreAssignment.NONE);
        Check.same("stepsMade", x.stepsMade(), ChoreAssignment.NONE);
        x.resize(2, 1);
        Check.same("distance", x.distance(), ChoreAssignment.NONE);
    }

    private static void minimumAndDistance() {
        Document.says(T, "The minimum and the saved minimum of tables of the same size differ by "
            + "at most the distance of the tables.");
        ChoreAssignment x = Tables.level(7, 7, 0);
        x.save();
        for (int cell = 0; cell < 49; cell++) {
            x.setForbidden(cell / 7, cell % 7, true);
        }
        Check.same("minima that differ by 7000", x.minimum() - x.savedMinimum(), 7000);
        Check.same("their distance", x.distance(), 49000);
        ChoreAssignment one = Tables.of("99");
        one.save();
        one.setCost(0, 0, 0);
        Check.same("minima that differ by all", one.savedMinimum() - one.minimum(), 99);
        Check.same("their distance", one.distance(), 99);
        for (String cells : TABLES) {
            ChoreAssignment y = Tables.of(cells);
            y.save();
            Check.same("equal tables", y.minimum() - y.savedMinimum() + y.distance(), 0);
            y.fill(5, 99);
            int apart = Math.abs(y.minimum() - y.savedMinimum());
            Check.same("filled " + cells, apart <= y.distance(), true);
        }
    }

    private static void minimumWithAndReducedCost() {
        Document.says(T, "(3) For each cell, the minimum with the cell is at least the minimum "
            + "plus the reduced cost of the cell, and equals the minimum exactly if an optimal "
            + "assignment uses the cell.");
        for (String cells : TABLES) {
            Map<String, Integer> sums = sumsOfAll(cells);
            ChoreAssignment x = Tables.of(cells);
            int least = least(sums);
            for (int cell = 0; cell < x.rows() * x.rows(); cell++) {
                int row = cell / x.rows();
                int column = cell % x.rows();
                int with = x.minimumWith(row, column);
                Check.same("at least in " + cells, with >= least + x.reducedCost(row, column),
                    true);
                boolean used = false;
                for (String code : sums.keySet()) {
                    used |= sums.get(code) == least && code.charAt(row) - '1' == column;
                }
                Check.same("equal in " + cells, with == least, used);
            }
        }
    }

    /** The sums of all assignments by their codes, in lexicographic order. */
    private static Map<String, Integer> sumsOfAll(String cells) {
        ChoreAssignment x = Tables.of(cells);
        Map<String, Integer> sums = new LinkedHashMap<>();
        extend(x, "", 0, sums);
        return sums;
    }

    private static void extend(ChoreAssignment x, String code, int sum, Map<String, Integer> sums) {
        int row = code.length();
        if (row == x.rows()) {
            sums.put(code, sum);
            return;
        }
        for (int column = 0; column < x.rows(); column++) {
            String digit = "" + (column + 1);
            if (!code.contains(digit)) {
                extend(x, code + digit, sum + x.costAt(row, column), sums);
            }
        }
    }

    private static int least(Map<String, Integer> sums) {
        return sums.values().stream().mapToInt(sum -> sum).min().getAsInt();
    }

    private static String firstOptimal(Map<String, Integer> sums) {
        int least = least(sums);
        return sums.keySet().stream().filter(code -> sums.get(code) == least).findFirst().get();
    }

    private static void minimumWithAndWithout() {
        Document.says(T, "If n is greater than 1, the minimum is the smaller one of the minimum "
            + "with a cell and the minimum without it, and the second best sum is the smallest "
            + "minimum without a cell of the first optimal assignment; it equals the minimum "
            + "exactly if there are several optimal assignments.");
        for (String cells : TABLES) {
            Map<String, Integer> sums = sumsOfAll(cells);
            ChoreAssignment x = Tables.of(cells);
            int n = x.rows();
            int least = least(sums);
            int second = Integer.MAX_VALUE;
            for (int cell = 0; cell < n * n && n > 1; cell++) {
                int without = x.minimumWithout(cell / n, cell % n);
                Check.same("the smaller one in " + cells,
                    Math.min(x.minimumWith(cell / n, cell % n), without), least);
                if (firstOptimal(sums).charAt(cell / n) - '1' == cell % n) {
                    second = Math.min(second, without);
                }
            }
            long optimal = sums.values().stream().filter(sum -> sum == least).count();
            Check.same("secondBest of " + cells, x.secondBest(), n == 1 ? -1 : second);
            Check.same("several in " + cells, x.secondBest() == least, optimal > 1);
        }
    }

    private static void maximumAndMinimum() {
        Document.says(T, "(4) If there is an allowed assignment, the maximum is 99 n minus the "
            + "minimum of the table in which each cost c of a cell that is not forbidden is "
            + "replaced by 99 - c.");
        String[][] pairs = {{"0", "99"}, {"99", "0"}, {"0 0 / 0 x5", "99 99 / 99 x94"},
            {"x0 99 / 0 x0", "x99 0 / 99 x99"},
            {"4 1 3 / 2 0 5 / 3 2 2", "95 98 96 / 97 99 94 / 96 97 97"},
            {"4 1 x3 / 2 x0 5 / 3 2 2", "95 98 x96 / 97 x99 94 / 96 97 97"}};
        for (String[] pair : pairs) {
            ChoreAssignment x = Tables.of(pair[0]);
            ChoreAssignment turned = Tables.of(pair[1]);
            Check.same("maximum of " + pair[0], x.maximum(), 99 * x.rows() - turned.minimum());
        }
        Check.same("none allowed", Tables.of("x0 5 / x0 5").maximum(), -1);
    }

    private static void bottleneckAndFits() {
        Document.says(T, "(5) The bottleneck is the smallest cost c for which fits(c) is true.");
        for (String cells : TABLES) {
            ChoreAssignment x = Tables.of(cells);
            int smallest = 0;
            ChoreAssignment y = Tables.of(cells);
            for (int limit = 0; limit <= 1000 && !y.fits(limit); limit++) {
                smallest = limit + 1;
                // An object is good for 512 calls.
                y = limit % 400 == 0 ? Tables.of(cells) : y;
            }
            Check.same("bottleneck of " + cells, x.bottleneck(), smallest);
            Check.same("it fits " + cells, x.fits(smallest), true);
        }
    }

    private static void enumerationAndCounts() {
        Document.says(T, "(6) The enumeration visits each assignment exactly once, in "
            + "non-decreasing order of sums, beginning with the first optimal assignment; "
            + "countWithin(s) of its steps have a sum of at most s.");
        for (String cells : TABLES) {
            Map<String, Integer> sums = sumsOfAll(cells);
            ChoreAssignment x = Tables.of(cells);
            int all = x.startEnumeration();
            Check.same("as many as there are", all, sums.size());
            int before = 0;
            for (int step = 1; step <= all; step++) {
                int sum = x.nextSum();
                String code = Whole.visited(x);
                if (step == 1) {
                    Check.same("the first visited", code, firstOptimal(sums));
                }
                Check.same("in order", sum >= before, true);
                Check.same("once, with its sum, " + code, sums.remove(code), sum);
                if (sum > before && step > 1) {
                    Check.same("countWithin " + before, Tables.of(cells).countWithin(before),
                        step - 1);
                }
                before = sum;
            }
            Check.same("countWithin the last", Tables.of(cells).countWithin(before), all);
        }
    }

    private static void sizes() {
        Document.says(T, "1. The table. The table has n rows and n columns, n from 1 to 7, indexed "
            + "from 0.");
        for (int n = 1; n <= 7; n++) {
            ChoreAssignment x = new ChoreAssignment();
            x.resize(n, n);
            Check.same("the first cell of " + n, x.costAt(0, 0), 0);
            Check.same("the last cell of " + n, x.costAt(n - 1, n - 1), 0);
            int past = n;
            Check.fails("a row past the last", Tables.INDEX, () -> x.costAt(past, 0));
            Check.fails("a column past the last", Tables.INDEX, () -> x.costAt(0, past));
            Check.fails("a row before the first", Tables.INDEX, () -> x.costAt(-1, 0));
        }
        Whole.refused("no rows", Tables::midway, Tables.ARGUMENT, x -> x.resize(0, 0));
        Whole.refused("8 rows", Tables::midway, Tables.ARGUMENT, x -> x.resize(8, 8));
    }

    private static void dummyColumns() {
        Document.says(T, "The first m columns (m from 1 to n) are real jobs; the remaining n - m "
            + "columns are dummy columns, and a worker that is assigned to one of them is idle.");
        for (int n = 1; n <= 7; n++) {
            for (int m = 1; m <= n; m++) {
                ChoreAssignment x = Tables.level(n, m, 9);
                StringBuilder row = new StringBuilder();
                for (int column = 0; column < n; column++) {
                    row.append(x.costAt(n - 1, column));
                }
                Check.same("last row of " + n + " " + m, row.toString(),
                    "9".repeat(m) + "0".repeat(n - m));
                Check.same("minimum, the others idle", x.minimum(), 9 * m);
                Check.same("maximum, the others idle", x.maximum(), 9 * m);
            }
        }
    }

    private static void numbersOfCells() {
        Document.says(T, "Each cell of a real column has a number from 0 to 99 and may be "
            + "forbidden.");
        ChoreAssignment x = Tables.of("0 99 / x0 x99");
        Check.same("costs", Tables.costs(x), "0 99 / 1000 1000");
        Check.same("numbers", Whole.numbers(x), "0 99 / 0 99");
        Whole.refused("100", Tables::midway, Tables.ARGUMENT, y -> y.setCost(0, 0, 100));
        Whole.refused("-1", Tables::midway, Tables.ARGUMENT, y -> y.setCost(0, 0, -1));
        Whole.refused("a dummy number", Tables::midway, Tables.INDEX, y -> y.setCost(0, 2, 0));
        Whole.refused("a dummy forbidden", Tables::midway, Tables.INDEX,
            y -> y.setForbidden(0, 2, true));
    }

    private static void costsOfCells() {
        Document.says(T, "The cost of a cell is its number, or 1000 while it is forbidden; each "
            + "cell of a dummy column has cost 0.");
        ChoreAssignment x = Tables.of("0 99 / 5 6 / 7 8");
        x.setForbidden(0, 0, true);
        x.setForbidden(0, 1, true);
        Check.same("while forbidden", Tables.costs(x), "1000 1000 0 / 5 6 0 / 7 8 0");
        x.setForbidden(0, 0, false);
        x.setForbidden(0, 1, false);
        Check.same("afterwards", Tables.costs(x), "0 99 0 / 5 6 0 / 7 8 0");
    }

    private static void initially() {
        Document.says(T, "Initially n = m = 1, the number is 0, and nothing is forbidden.");
        ChoreAssignment x = new ChoreAssignment();
        Check.same("n", x.rows(), 1);
        Check.same("m", x.columns(), 1);
        Check.same("forbiddenCount", x.forbiddenCount(), 0);
        Check.same("cost", x.costAt(0, 0), 0);
        Check.same("number", new ChoreAssignment().setCost(0, 0, 5), 0);
        Document.says(T, "There is also one saved table, which is initially the same.");
        Check.same("distance", x.distance(), 0);
        Check.same("savedMinimum", x.savedMinimum(), 0);
        x.resize(3, 3);
        Check.same("restore", x.restore(), 1);
        Check.same("m", x.columns(), 1);
        Check.same("forbiddenCount", x.forbiddenCount(), 0);
        Check.same("number", x.setCost(0, 0, 5), 0);
    }

    private static void assignments() {
        Document.says(T, "2. Assignments. An assignment is a permutation: it gives row i the "
            + "column p(i), all different.", "Its sum is the sum of the costs of its n cells.");
        ChoreAssignment one = Tables.of("42");
        Check.same("the only one", one.sumOf(1), 42);
        ChoreAssignment two = Tables.of("1 2 / 4 8");
        Check.same("12", two.sumOf(12), 9);
        Check.same("21", two.sumOf(21), 6);
        Check.fails("11", Tables.ARGUMENT, () -> two.sumOf(11));
        Check.fails("22", Tables.ARGUMENT, () -> two.sumOf(22));
        Check.same("all n cells", Tables.shut(7, 7).sumOf(1234567), 7000);
        Check.same("a dummy column is used once", Tables.of("9 9 / 9 9 / 9 9").minimum(), 18);
    }

    private static void allowed() {
        Document.says(T, "An assignment is allowed if it uses no forbidden cell; its sum is below "
            + "1000 exactly then.");
        Check.same("the dearest allowed one", Tables.level(7, 7, 99).sumOf(1234567), 693);
        ChoreAssignment x = Tables.level(7, 7, 0);
        x.setForbidden(6, 6, true);
        Check.same("the cheapest that is not", x.sumOf(1234567), 1000);
        Check.same("it is none of the allowed ones", x.countWithin(999), 4320);
        Check.same("maximum of the others", x.maximum(), 0);
        Check.same("a forbidden cell off it", x.sumOf(7654321), 0);
    }

    private static void lexicographically() {
        Document.says(T, "Assignments are compared lexicographically: p precedes q if p(i) is less "
            + "than q(i) for the smallest i with p(i) not equal to q(i).",
            "An assignment is optimal if its sum is the minimum.",
            "The first optimal assignment is the lexicographically smallest optimal one.");
        for (String cells : TABLES) {
            ChoreAssignment x = Tables.of(cells);
            StringBuilder code = new StringBuilder();
            for (int row = 0; row < x.rows(); row++) {
                code.append(x.assigned(row) + 1);
            }
            Check.same("first of " + cells, code.toString(), firstOptimal(sumsOfAll(cells)));
        }
        ChoreAssignment x = Tables.of("1 1 0 / 1 0 1 / 0 1 1");
        Check.same("only the last one", x.assigned(0), 2);
        x.setCost(2, 2, 0);
        x.setCost(0, 1, 0);
        x.setCost(1, 0, 0);
        Check.same("then an earlier one", x.assigned(0), 1);
        x.setCost(0, 0, 0);
        Check.same("then the first one", x.assigned(0), 0);
        Check.same("its row 1", x.assigned(1), 1);
    }

    private static void minimumOfAll() {
        Document.says(T, "The minimum is the smallest sum of all n! assignments, allowed or not.");
        for (String cells : TABLES) {
            Check.same("minimum of " + cells, Tables.of(cells).minimum(), least(sumsOfAll(cells)));
        }
        Check.same("none allowed", Tables.of("x0 x0 / 3 4").minimum(), 1003);
        ChoreAssignment x = Tables.level(7, 7, 99);
        Check.same("the dearest allowed", x.minimum(), 693);
        x.setForbidden(6, 6, true);
        Check.same("one cell forbidden", x.minimum(), 693);
        for (int column = 0; column < 6; column++) {
            x.setForbidden(6, column, true);
        }
        Check.same("a row forbidden", x.minimum(), 1594);
    }

    private static void secondBest() {
        Document.says(T, "The second best sum is the smallest sum of all assignments other than "
            + "the first optimal assignment.");
        for (String cells : TABLES) {
            Map<String, Integer> sums = sumsOfAll(cells);
            sums.remove(firstOptimal(sums));
            Check.same("secondBest of " + cells, Tables.of(cells).secondBest(),
                sums.isEmpty() ? -1 : least(sums));
        }
    }

    private static void potentials() {
        Document.says(T, "3. Potentials. The potential of row i is the minimum minus the smallest "
            + "sum of the assignments of all rows except i to all columns except column 0 (that "
            + "smallest sum is 0 if n = 1).",
            "The potential of column j is the smallest value, over all rows i, of the cost of "
            + "cell (i, j) minus the potential of row i.",
            "The reduced cost of cell (i, j) is its cost minus the potential of row i minus the "
            + "potential of column j.");
        for (String cells : TABLES) {
            Map<String, Integer> sums = sumsOfAll(cells);
            ChoreAssignment x = Tables.of(cells);
            int n = x.rows();
            int[] rows = new int[n];
            for (int row = 0; row < n; row++) {
                int rest = Integer.MAX_VALUE;
                for (String code : sums.keySet()) {
                    if (code.charAt(row) == '1') {
                        rest = Math.min(rest, sums.get(code) - x.costAt(row, 0));
                    }
                }
                rows[row] = least(sums) - rest;
                Check.same("row " + row + " of " + cells, x.rowPotential(row), rows[row]);
            }
            for (int column = 0; column < n; column++) {
                int due = Integer.MAX_VALUE;
                for (int row = 0; row < n; row++) {
                    due = Math.min(due, x.costAt(row, column) - rows[row]);
                }
                Check.same("column " + column + " of " + cells, x.columnPotential(column), due);
                Check.same("reduced " + column + " of " + cells, x.reducedCost(n - 1, column),
                    x.costAt(n - 1, column) - rows[n - 1] - due);
            }
        }
        Check.same("the smallest sum is 0 if n = 1", Tables.of("42").rowPotential(0), 42);
    }

    private static void negativePotentials() {
        Document.says(T, "Potentials may be negative.");
        Check.same("of a row", Tables.of("0 0 / 0 x0").rowPotential(0), -1000);
        Check.same("of a column", Tables.of("5 / 3").columnPotential(1), -3);
        Check.same("of a column of shut ones", Tables.of("x5 / x3").columnPotential(1), -1000);
    }

    private static void orderOfVisits() {
        Document.says(T, "4. The enumeration. It visits all n! assignments ordered by their sum, "
            + "and lexicographically among equal sums.");
        for (String cells : TABLES) {
            Map<String, Integer> sums = sumsOfAll(cells);
            ChoreAssignment x = Tables.of(cells);
            x.startEnumeration();
            while (!sums.isEmpty()) {
                String next = firstOptimal(sums);
                Check.same("next sum of " + cells, x.nextSum(), sums.remove(next));
                Check.same("next of " + cells, Whole.visited(x), next);
            }
            Check.fails("all of " + cells, NoSuchElementException.class, x::nextSum);
        }
    }

    /** Calls that leave the table 0 1 / 1 0, which is saved too, as it is. */
    private static final Object[][] CANCELLING = {
        {"resize", (Whole.Call) x -> x.resize(2, 2), true},
        {"setCost", (Whole.Call) x -> x.setCost(0, 1, 1), false},
        {"setRow", (Whole.Call) x -> x.setRow(0, 1L), false},
        {"fill", (Whole.Call) x -> x.fill(0, 0), true},
        {"setForbidden", (Whole.Call) x -> x.setForbidden(0, 0, false), false},
        {"addToRow", (Whole.Call) x -> x.addToRow(1, 0), false},
        {"addToColumn", (Whole.Call) x -> x.addToColumn(1, 0), false},
        {"swapRows", (Whole.Call) x -> x.swapRows(1, 1), false},
        {"swapColumns", (Whole.Call) x -> x.swapColumns(0, 0), false},
        {"transpose", (Whole.Call) x -> x.transpose(), false},
        {"restore", (Whole.Call) x -> x.restore(), false},
    };

    private static void cancelled() {
        Document.says(T, "It is cancelled by every call of resize, setCost, setRow, fill, "
            + "setForbidden, addToRow, addToColumn, swapRows, swapColumns, transpose or restore",
            ", even if the table is the same afterwards.");
        for (Object[] call : CANCELLING) {
            for (int steps = 0; steps <= 2; steps++) {
                // Those that set all numbers to 0 begin with a table that is so already.
                ChoreAssignment x = started((boolean) call[2] ? "0 0 / 0 0" : "0 1 / 1 0", steps);
                String costs = Tables.costs(x);
                String what = call[0] + " after " + steps;
                Object outcome = Whole.outcome(x, (Whole.Call) call[1]);
                Check.same(what + " (" + outcome + ")", outcome instanceof String, false);
                Check.same("costs, " + what, Tables.costs(x), costs);
                Check.same("stepsMade, " + what, x.stepsMade(), -1);
                Check.fails("nextSum, " + what, Tables.STATE, x::nextSum);
                Check.fails("currentColumn, " + what, Tables.STATE, () -> x.currentColumn(0));
                Check.same("a new one, " + what, x.startEnumeration(), 2);
            }
        }
    }

    private static ChoreAssignment started(String cells, int steps) {
        ChoreAssignment x = Tables.of(cells);
        x.save();
        x.startEnumeration();
        for (int step = 0; step < steps; step++) {
            x.nextSum();
        }
        return x;
    }

    private static void notCancelled() {
        Document.says(T, " that throws no exception");
        for (int steps = 0; steps <= 6; steps++) {
            int made = steps;
            for (Object[] call : ASKING) {
                ChoreAssignment x = started("4 7 / 1 x6 / 2 2", made);
                Object outcome = Whole.outcome(x, (Whole.Call) call[1]);
                Check.same(call[0] + " (" + outcome + ")", outcome instanceof String, false);
                Check.same("all that is held after " + call[0], Whole.of(x),
                    Whole.of(started("4 7 / 1 x6 / 2 2", made)));
            }
            for (Object[] call : THROWING) {
                Whole.refused(call[0] + " after " + made,
                    () -> started("4 7 / 1 x6 / 2 2", made), exception(call[2]),
                    (Whole.Call) call[1]);
            }
        }
    }

    @SuppressWarnings("unchecked")
    private static Class<? extends Exception> exception(Object of) {
        return (Class<? extends Exception>) of;
    }

    /** Calls that change nothing: the saved table of those that are asked is the table. */
    private static final Object[][] ASKING = {
        {"costAt", (Whole.Call) x -> x.costAt(2, 2)},
        {"save", (Whole.Call) x -> x.save()},
        {"distance", (Whole.Call) x -> x.distance()},
        {"rows", (Whole.Call) x -> x.rows()},
        {"columns", (Whole.Call) x -> x.columns()},
        {"forbiddenCount", (Whole.Call) x -> x.forbiddenCount()},
        {"totalCost", (Whole.Call) x -> x.totalCost()},
        {"minimum", (Whole.Call) x -> x.minimum()},
        {"savedMinimum", (Whole.Call) x -> x.savedMinimum()},
        {"assigned", (Whole.Call) x -> x.assigned(2)},
        {"optimalCount", (Whole.Call) x -> x.optimalCount()},
        {"rowPotential", (Whole.Call) x -> x.rowPotential(2)},
        {"columnPotential", (Whole.Call) x -> x.columnPotential(2)},
        {"reducedCost", (Whole.Call) x -> x.reducedCost(2, 2)},
        {"minimumWith", (Whole.Call) x -> x.minimumWith(2, 2)},
        {"minimumWithout", (Whole.Call) x -> x.minimumWithout(2, 2)},
        {"minimumIfCost", (Whole.Call) x -> x.minimumIfCost(1, 1, 0)},
        {"secondBest", (Whole.Call) x -> x.secondBest()},
        {"maximum", (Whole.Call) x -> x.maximum()},
        {"bottleneck", (Whole.Call) x -> x.bottleneck()},
        {"fits", (Whole.Call) x -> x.fits(2)},
        {"countWithin", (Whole.Call) x -> x.countWithin(1000)},
        {"sumOf", (Whole.Call) x -> x.sumOf(321)},
        {"stepsMade", (Whole.Call) x -> x.stepsMade()},
        {"meanCost", (Whole.Call) x -> x.meanCost()},
        {"shareOf", (Whole.Call) x -> x.shareOf(2)},
        {"checksum", (Whole.Call) x -> x.checksum()},
        {"isSound", (Whole.Call) x -> x.isSound()},
    };

    /** Calls that throw on a table 4 7 0 / 1 1000 0 / 2 2 0. */
    private static final Object[][] THROWING = {
        {"resize 3 4", (Whole.Call) x -> x.resize(3, 4), Tables.ARGUMENT},
        {"setCost 0 2 0", (Whole.Call) x -> x.setCost(0, 2, 0), Tables.INDEX},
        {"setCost 0 0 100", (Whole.Call) x -> x.setCost(0, 0, 100), Tables.ARGUMENT},
        {"setRow 3", (Whole.Call) x -> x.setRow(3, 0L), Tables.INDEX},
        {"setRow 10000", (Whole.Call) x -> x.setRow(1, 10000L), Tables.ARGUMENT},
        {"fill 10000 0", (Whole.Call) x -> x.fill(10000, 0), Tables.ARGUMENT},
        {"fill 0 100", (Whole.Call) x -> x.fill(0, 100), Tables.ARGUMENT},
        {"setForbidden 0 2", (Whole.Call) x -> x.setForbidden(0, 2, true), Tables.INDEX},
        {"costAt 3 0", (Whole.Call) x -> x.costAt(3, 0), Tables.INDEX},
        {"addToRow 3 0", (Whole.Call) x -> x.addToRow(3, 0), Tables.INDEX},
        {"addToRow 0 100", (Whole.Call) x -> x.addToRow(0, 100), Tables.ARGUMENT},
        {"addToRow 0 1", (Whole.Call) x -> x.addToRow(0, 1), Tables.STATE},
        {"addToColumn 2 0", (Whole.Call) x -> x.addToColumn(2, 0), Tables.INDEX},
        {"addToColumn 0 -100", (Whole.Call) x -> x.addToColumn(0, -100), Tables.ARGUMENT},
        {"addToColumn 0 -2", (Whole.Call) x -> x.addToColumn(0, -2), Tables.STATE},
        {"addToColumn 1 0", (Whole.Call) x -> x.addToColumn(1, 0), Tables.STATE},
        {"swapRows 0 3", (Whole.Call) x -> x.swapRows(0, 3), Tables.INDEX},
        {"swapColumns 0 2", (Whole.Call) x -> x.swapColumns(0, 2), Tables.INDEX},
        {"transpose", (Whole.Call) x -> x.transpose(), Tables.STATE},
        {"assigned 3", (Whole.Call) x -> x.assigned(3), Tables.INDEX},
        {"rowPotential -1", (Whole.Call) x -> x.rowPotential(-1), Tables.INDEX},
        {"columnPotential 3", (Whole.Call) x -> x.columnPotential(3), Tables.INDEX},
        {"reducedCost 0 3", (Whole.Call) x -> x.reducedCost(0, 3), Tables.INDEX},
        {"minimumWith 3 0", (Whole.Call) x -> x.minimumWith(3, 0), Tables.INDEX},
        {"minimumWithout 0 -1", (Whole.Call) x -> x.minimumWithout(0, -1), Tables.INDEX},
        {"minimumIfCost 0 2 0", (Whole.Call) x -> x.minimumIfCost(0, 2, 0), Tables.INDEX},
        {"minimumIfCost 0 0 100", (Whole.Call) x -> x.minimumIfCost(0, 0, 100), Tables.ARGUMENT},
        {"fits 1001", (Whole.Call) x -> x.fits(1001), Tables.ARGUMENT},
        {"countWithin 7001", (Whole.Call) x -> x.countWithin(7001), Tables.ARGUMENT},
        {"sumOf 122", (Whole.Call) x -> x.sumOf(122), Tables.ARGUMENT},
        {"currentColumn 3", (Whole.Call) x -> x.currentColumn(3), Tables.INDEX},
        {"shareOf 3", (Whole.Call) x -> x.shareOf(3), Tables.INDEX},
    };

    private static void throwingChangesNothing() {
        Document.says(T, "Exceptions. A method that throws an exception changes nothing.");
        for (Object[] call : THROWING) {
            Whole.refused((String) call[0], Tables::midway, exception(call[2]),
                (Whole.Call) call[1]);
            Whole.refused(call[0] + ", none active", TermsEdges::inactive, exception(call[2]),
                (Whole.Call) call[1]);
        }
        Whole.refused("nextSum, none active", TermsEdges::inactive, Tables.STATE,
            ChoreAssignment::nextSum);
        Whole.refused("nextSum, past the end", () -> started("4 7 / 1 x6 / 2 2", 6),
            NoSuchElementException.class, ChoreAssignment::nextSum);
        Whole.refused("currentColumn, no step", () -> started("4 7 / 1 x6 / 2 2", 0),
            Tables.STATE, x -> x.currentColumn(0));
        Whole.refused("startEnumeration of seven", () -> Tables.level(7, 6, 3), Tables.STATE,
            ChoreAssignment::startEnumeration);
    }

    private static ChoreAssignment inactive() {
        ChoreAssignment x = Tables.midway();
        x.setForbidden(1, 1, true);
        return x;
    }

    private static void firstDocumentedIsThrown() {
        Document.says(T, "If several exceptions apply, the one that is documented first is "
            + "thrown.");
        for (int row : new int[] {-1, 3}) {
            for (int wrong : new int[] {-100, 100}) {
                Whole.refused("setCost", Tables::midway, Tables.INDEX,
                    x -> x.setCost(row, 0, wrong));
                Whole.refused("setRow", Tables::midway, Tables.INDEX,
                    x -> x.setRow(row, wrong * 100L));
                Whole.refused("addToRow", Tables::midway, Tables.INDEX,
                    x -> x.addToRow(row, wrong));
                Whole.refused("minimumIfCost", Tables::midway, Tables.INDEX,
                    x -> x.minimumIfCost(row, 0, wrong));
                Whole.refused("addToRow, no row to add to", Tables::midway, Tables.ARGUMENT,
                    x -> x.addToRow(1, wrong));
            }
            Whole.refused("addToRow, a dummy column", Tables::midway, Tables.INDEX,
                x -> x.addToRow(row, 1));
            Whole.refused("currentColumn, none active", TermsEdges::inactive, Tables.INDEX,
                x -> x.currentColumn(row));
            Whole.refused("currentColumn, no step", () -> started("4 7 / 1 x6 / 2 2", 0),
                Tables.INDEX, x -> x.currentColumn(row));
        }
        for (int column : new int[] {-1, 2, 3}) {
            for (int wrong : new int[] {-100, 100}) {
                Whole.refused("setCost", Tables::midway, Tables.INDEX,
                    x -> x.setCost(0, column, wrong));
                Whole.refused("addToColumn", Tables::midway, Tables.INDEX,
                    x -> x.addToColumn(column, wrong));
                Whole.refused("minimumIfCost", Tables::midway, Tables.INDEX,
                    x -> x.minimumIfCost(0, column, wrong));
                Whole.refused("addToColumn, a forbidden cell", Tables::midway, Tables.ARGUMENT,
                    x -> x.addToColumn(1, wrong));
            }
            Whole.refused("addToColumn, too much", Tables::midway, Tables.INDEX,
                x -> x.addToColumn(column, 99));
        }
    }
}
