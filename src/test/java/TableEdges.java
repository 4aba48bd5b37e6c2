/** The edges that the promises 1 to 7 name. */
final class TableEdges {
    private TableEdges() {
    }

    static void all() {
        newObject();
        resizeReplaces();
        resizeRanges();
        resizeRefuses();
        setCostSets();
        setCostKeepsForbidden();
        setCostRanges();
        setCostRefuses();
        setRowSets();
        setRowKeepsForbidden();
        setRowPacked();
        setRowSmallest();
        setRowRefuses();
        fillSets();
        fillModulo();
        fillSum();
        fillRefuses();
        setForbiddenKeepsNumber();
        setForbiddenSays();
        setForbiddenCounts();
        setForbiddenRefuses();
        costAtAnswers();
        costAtRefuses();
    }

    private static void newObject() {
        Document.says(1, "Creates the table and the saved table; no enumeration is active.");
        ChoreAssignment x = new ChoreAssignment();
        Check.same("stepsMade", x.stepsMade(), -1);
        Check.fails("nextSum", Tables.STATE, x::nextSum);
        Check.fails("currentColumn", Tables.STATE, () -> x.currentColumn(0));
        Check.same("table and saved table", Whole.of(new ChoreAssignment()),
            " n 1 m 1 costs 0 steps -1 java.lang.IllegalStateException"
            + " java.lang.IllegalStateException numbers 0 saved n 1 m 1 costs 0 numbers 0");
        x.setCost(0, 0, 4);
        Check.same("the saved one is another", x.distance(), 4);
        ChoreAssignment other = new ChoreAssignment();
        other.resize(2, 2);
        other.save();
        other.startEnumeration();
        Check.same("objects share no table", x.rows(), 1);
        Check.same("objects share no saved table", x.savedMinimum(), 0);
        Check.same("objects share no enumeration", x.stepsMade(), -1);
    }

    private static void resizeReplaces() {
        Document.says(2, "Replaces the table by one in which all numbers are 0 and nothing is "
            + "forbidden.");
        ChoreAssignment x = Tables.of("x7 8 / 9 x6");
        x.resize(2, 2);
        Check.same("costs, the same size", Tables.costs(x), "0 0 / 0 0");
        Check.same("forbiddenCount", x.forbiddenCount(), 0);
        x.setForbidden(0, 0, true);
        Check.same("no number is kept", Whole.numbers(x), "0 0 / 0 0");
        Tables.put(x, "5 5 5 / 5 5 5 / 5 5 x5");
        x.resize(1, 1);
        x.resize(3, 3);
        Check.same("no number outlasts a smaller table", Tables.costs(x), "0 0 0 / 0 0 0 / 0 0 0");
        Tables.put(x, "5 5 5 / 5 5 5 / 5 5 x5");
        x.resize(3, 2);
        x.resize(3, 3);
        Check.same("nor a dummy column", Tables.costs(x), "0 0 0 / 0 0 0 / 0 0 0");
        Tables.put(x, "5 x6 / 0 0");
        x.save();
        x.resize(7, 7);
        x.restore();
        Check.same("the saved table is another", Tables.costs(x), "5 1000 / 0 0");
    }

    private static void resizeRanges() {
        Document.says(2, "- `rows`: number of rows n, 1 to 7",
            "- `columns`: number of real columns m, 1 to rows",
            "Returns the number of cells in real columns.");
        int[][] due = {{1}, {2, 4}, {3, 6, 9}, {4, 8, 12, 16}, {5, 10, 15, 20, 25},
            {6, 12, 18, 24, 30, 36}, {7, 14, 21, 28, 35, 42, 49}};
        for (int n = 1; n <= 7; n++) {
            for (int m = 1; m <= n; m++) {
                ChoreAssignment x = Tables.of("3");
                Check.same("resize " + n + " " + m, x.resize(n, m), due[n - 1][m - 1]);
                Check.same("rows", x.rows(), n);
                Check.same("columns", x.columns(), m);
                Check.same("costs", x.totalCost(), 0);
            }
        }
    }

    private static void resizeRefuses() {
        Document.says(2, "Throws `IllegalArgumentException` if rows or columns is out of range");
        int[][] wrong = {{0, 1}, {0, 0}, {8, 1}, {8, 7}, {8, 8}, {-1, 1}, {-1, -1}, {-7, -7},
            {1, 0}, {1, 2}, {2, 0}, {2, 3}, {2, -1}, {6, 7}, {7, 0}, {7, 8}, {7, -7},
            {Integer.MAX_VALUE, 1}, {Integer.MIN_VALUE, 1}, {7, Integer.MAX_VALUE},
            {7, Integer.MIN_VALUE}, {Integer.MAX_VALUE, Integer.MAX_VALUE},
            {Integer.MIN_VALUE, Integer.MIN_VALUE}, {65536 + 2, 1}};
        for (int[] size : wrong) {
            Whole.refused("resize " + size[0] + " " + size[1], Tables::midway,
                Tables.ARGUMENT, x -> x.resize(size[0], size[1]));
        }
    }

    private static void setCostSets() {
        Document.says(3, "Sets the number of a cell.", "Returns the previous number of the cell.");
        ChoreAssignment x = Tables.of("4 7 / 1 6 / 2 2");
        Check.same("setCost from 7 to 99", x.setCost(0, 1, 99), 7);
        Check.same("setCost from 99 to 0", x.setCost(0, 1, 0), 99);
        Check.same("setCost from 0 to 0", x.setCost(0, 1, 0), 0);
        Check.same("setCost of the last real cell", x.setCost(2, 1, 3), 2);
        Check.same("that cell alone", Tables.costs(x), "4 0 0 / 1 6 0 / 2 3 0");
        x.setForbidden(1, 0, true);
        Check.same("previous number, not cost, of a forbidden cell", x.setCost(1, 0, 44), 1);
        ChoreAssignment seven = Tables.level(7, 7, 0);
        seven.setCost(6, 6, 5);
        seven.setCost(0, 6, 4);
        seven.setCost(6, 0, 3);
        Check.same("the corners of seven", "" + seven.costAt(6, 6) + seven.costAt(0, 6)
            + seven.costAt(6, 0) + seven.totalCost(), "54312");
    }

    private static void setCostKeepsForbidden() {
        Document.says(3, "The cell remains forbidden if it was.");
        ChoreAssignment x = Tables.of("x4 7 / 1 6");
        x.setCost(0, 0, 0);
        Check.same("cost", x.costAt(0, 0), 1000);
        Check.same("forbiddenCount", x.forbiddenCount(), 1);
        Check.same("minimum", x.minimum(), 8);
        x.setCost(0, 1, 5);
        Check.same("one that was not is not", x.costAt(0, 1), 5);
        Check.same("the number is set", Whole.numbers(x), "0 5 / 1 6");
    }

    private static void setCostRanges() {
        Document.says(3, "- `row`: 0 to n - 1");
        Ranges.upToN("setCost row", (x, row) -> x.setCost(row, 0, 5));
        Document.says(3, "- `column`: index of a real column");
        Ranges.upToM("setCost column", (x, column) -> x.setCost(0, column, 5));
        Document.says(3, "- `number`: 0 to 99",
            "Throws `IllegalArgumentException` if number is out of range");
        ChoreAssignment x = Tables.of("50");
        for (int number = 0; number <= 99; number++) {
            x.setCost(0, 0, number);
            Check.same("number " + number, x.costAt(0, 0), number);
        }
        int[] wrong = {-1, 100, 1000, 999, -99, 256, Integer.MIN_VALUE, Integer.MAX_VALUE};
        for (int number : wrong) {
            Whole.refused("number " + number, Tables::midway, Tables.ARGUMENT,
                y -> y.setCost(0, 0, number));
            Whole.refused("number " + number + " of a forbidden cell", Tables::midway,
                Tables.ARGUMENT, y -> y.setCost(1, 1, number));
        }
    }

    private static void setCostRefuses() {
        Document.says(3, "Throws `IndexOutOfBoundsException` if there is no such row or real "
            + "column");
        int[][] wrong = {{3, 0}, {-1, 0}, {0, -1}, {0, 2}, {0, 3}, {3, 2}, {2, 2}, {7, 7},
            {-1, 7}, {1, -7}};
        for (int[] cell : wrong) {
            for (int number : new int[] {0, 99, -1, 100}) {
                Whole.refused("setCost " + cell[0] + " " + cell[1] + " " + number,
                    Tables::midway, Tables.INDEX, x -> x.setCost(cell[0], cell[1], number));
            }
        }
    }

    private static void setRowSets() {
        Document.says(4, "Sets the numbers of all real cells of a row.");
        ChoreAssignment x = Tables.of("4 7 / 1 6 / 2 2");
        x.setRow(0, 1122L);
        x.setRow(2, 3344L);
        Check.same("the first and the last row", Tables.costs(x), "11 22 0 / 1 6 0 / 33 44 0");
        Document.says(4, "- `row`: 0 to n - 1",
            "Throws `IndexOutOfBoundsException` if there is no such row");
        Ranges.upToN("setRow row", (y, row) -> y.setRow(row, 5L));
        Whole.refused("setRow 3 with a wrong packed", Tables::midway, Tables.INDEX,
            y -> y.setRow(3, -1L));
        Whole.refused("setRow -1 with a wrong packed", Tables::midway, Tables.INDEX,
            y -> y.setRow(-1, 10000L));
    }

    private static void setRowKeepsForbidden() {
        Document.says(4, "Forbidden cells remain forbidden.");
        ChoreAssignment x = Tables.of("x4 7 / x1 x6");
        x.setRow(0, 203L);
        x.setRow(1, 405L);
        Check.same("costs", Tables.costs(x), "1000 3 / 1000 1000");
        Check.same("forbiddenCount", x.forbiddenCount(), 3);
        Check.same("the numbers are set", Whole.numbers(x), "2 3 / 4 5");
    }

    private static void setRowPacked() {
        Document.says(4, "- `packed`: the m numbers as decimal digits in base 100: the number of "
            + "real column m - 1 is packed modulo 100, that of column m - 2 is packed / 100 "
            + "modulo 100, and so on");
        String[] due = {"16", "15 16", "14 15 16", "13 14 15 16", "12 13 14 15 16",
            "11 12 13 14 15 16", "10 11 12 13 14 15 16"};
        long packed = 0;
        long unit = 1;
        for (int m = 1; m <= 7; m++) {
            packed += (17 - m) * unit;
            unit *= 100;
            ChoreAssignment x = new ChoreAssignment();
            x.resize(m, m);
            x.setRow(m - 1, packed);
            StringBuilder row = new StringBuilder();
            for (int column = 0; column < m; column++) {
                row.append(column == 0 ? "" : " ").append(x.costAt(m - 1, column));
            }
            Check.same("row of " + packed, row.toString(), due[m - 1]);
        }
        ChoreAssignment x = Tables.of("1 1 1 / 1 1 1 / 1 1 1");
        x.setRow(0, 0L);
        x.setRow(1, 100L);
        x.setRow(2, 990000L);
        Check.same("leading zeros and single places", Tables.costs(x), "0 0 0 / 0 1 0 / 99 0 0");
    }

    private static void setRowSmallest() {
        Document.says(4, "Returns the smallest of these numbers.");
        ChoreAssignment x = Tables.of("50 50 x50 / 50 50 50 / 50 50 50");
        Check.same("the first one", x.setRow(1, 10203L), 1);
        Check.same("the last one", x.setRow(1, 30201L), 1);
        Check.same("one in between", x.setRow(1, 20103L), 1);
        Check.same("all 0", x.setRow(1, 0L), 0);
        Check.same("all 99", x.setRow(1, 999999L), 99);
        Check.same("a leading 0", x.setRow(1, 9999L), 0);
        Check.same("that of a forbidden cell", x.setRow(0, 90807L), 7);
        Check.same("all forbidden", Tables.shut(2, 2).setRow(0, 5060L), 50);
        ChoreAssignment idle = Tables.of("50 50 / 50 50 / 50 50");
        Check.same("not the cost of a dummy column", idle.setRow(2, 5060L), 50);
    }

    private static void setRowRefuses() {
        Document.says(4, "Throws `IllegalArgumentException` if packed is negative or at least 100 "
            + "to the power of m");
        long bound = 1;
        for (int m = 1; m <= 7; m++) {
            bound *= 100;
            for (int n = m; n <= 7; n++) {
                int rows = n;
                int real = m;
                long most = bound - 1;
                ChoreAssignment x = Tables.level(n, m, 5);
                Check.same("setRow " + most, Whole.outcome(x, y -> y.setRow(0, most)), 99);
                long[] wrong = {most + 1, most + 2, 100 * most, -1L, -most, Long.MIN_VALUE,
                    Long.MAX_VALUE, -(1L << 32), (1L << 48) + 5, 1L << 63};
                for (long packed : wrong) {
                    Whole.refused("setRow " + packed + " of " + m,
                        () -> Tables.level(rows, real, 5), Tables.ARGUMENT,
                        y -> y.setRow(rows - 1, packed));
                }
            }
        }
        Whole.refused("setRow -1 midway", Tables::midway, Tables.ARGUMENT,
            y -> y.setRow(1, -1L));
        Whole.refused("setRow 10000 midway", Tables::midway, Tables.ARGUMENT,
            y -> y.setRow(1, 10000L));
    }

    private static void fillSets() {
        Document.says(5, "Sets all numbers of real cells, row by row, and allows all cells.",
            "Let x be seed.", "For each real cell in this order x is replaced by");
        ChoreAssignment x = Tables.of("x1 2 3 / 4 x5 6 / 7 8 x9");
        x.fill(0, 99);
        Check.same("costs", Tables.costs(x), "11 18 70 / 61 12 64 / 88 25 82");
        Check.same("forbiddenCount", x.forbiddenCount(), 0);
        x.resize(3, 2);
        x.setForbidden(2, 1, true);
        x.fill(0, 99);
        Check.same("dummy columns take no x", Tables.costs(x), "11 18 0 / 70 61 0 / 12 64 0");
        Check.same("the last cell is allowed", x.forbiddenCount(), 0);
    }

    private static void fillModulo() {
        Document.says(5, "(37 x + 11) modulo 10007, and the number of the cell is x modulo "
            + "(most + 1).");
        ChoreAssignment x = Tables.of("9 / 9");
        x.fill(1352, 99);
        Check.same("37 * 1352 + 11 is 5 * 10007", Tables.costs(x), "0 0 / 11 0");
        x.fill(7843, 99);
        Check.same("37 * 7843 + 11 is 1 less than 29 * 10007", Tables.costs(x), "6 0 / 81 0");
        x.fill(2707, 99);
        Check.same("x is 100, then 3711", Tables.costs(x), "0 0 / 11 0");
        x.fill(9198, 99);
        Check.same("x is 99, then 3674", Tables.costs(x), "99 0 / 74 0");
        x.fill(2707, 98);
        Check.same("100 and 3711 modulo 99", Tables.costs(x), "1 0 / 48 0");
    }

    private static void fillSum() {
        Document.says(5, "- `seed`: 0 to 9999", "- `most`: 0 to 99",
            "Returns the sum of these numbers.");
        ChoreAssignment x = Tables.level(7, 7, 50);
        Check.same("fill 0 99", x.fill(0, 99), 2400);
        Check.same("its last cells", x.costAt(6, 5) + 100 * x.costAt(5, 6), 8149);
        Check.same("fill 9999 99", x.fill(9999, 99), 2188);
        Check.same("its last cells", x.costAt(6, 5) + 100 * x.costAt(6, 6), 9382);
        Check.same("fill 9999 98", x.fill(9999, 98), 2238);
        Check.same("fill 0 1", x.fill(0, 1), 20);
        Check.same("fill 9999 0", x.fill(9999, 0), 0);
        Check.same("its costs", x.totalCost(), 0);
        x.fill(0, 99);
        Check.same("fill 0 0", x.fill(0, 0), 0);
        Check.same("its costs", x.totalCost(), 0);
        x.resize(7, 1);
        Check.same("fill of a column", x.fill(9999, 99), 272);
        x.resize(1, 1);
        Check.same("fill of one", x.fill(0, 99), 11);
    }

    private static void fillRefuses() {
        Document.says(5, "Throws `IllegalArgumentException` if seed or most is out of range");
        int[][] wrong = {{-1, 0}, {-1, 99}, {10000, 0}, {10000, 99}, {10006, 5}, {10007, 5},
            {0, -1}, {9999, -1}, {0, 100}, {9999, 100}, {-1, -1}, {10000, 100},
            {Integer.MIN_VALUE, 5}, {Integer.MAX_VALUE, 5}, {5, Integer.MIN_VALUE},
            {5, Integer.MAX_VALUE}};
        for (int[] pair : wrong) {
            Whole.refused("fill " + pair[0] + " " + pair[1], Tables::midway, Tables.ARGUMENT,
                x -> x.fill(pair[0], pair[1]));
        }
    }

    private static void setForbiddenKeepsNumber() {
        Document.says(6, "Forbids or allows a cell.", "Its number is kept.");
        for (int number : new int[] {0, 1, 99}) {
            ChoreAssignment x = Tables.level(2, 2, number);
            x.setForbidden(1, 1, true);
            Check.same("forbidden " + number, x.costAt(1, 1), 1000);
            x.setForbidden(1, 1, true);
            x.setForbidden(1, 1, false);
            Check.same("allowed " + number, x.costAt(1, 1), number);
            x.setForbidden(1, 1, false);
            Check.same("allowed again " + number, x.costAt(1, 1), number);
        }
        ChoreAssignment x = Tables.level(7, 7, 3);
        x.setForbidden(6, 6, true);
        x.setForbidden(0, 6, true);
        Check.same("the last column of seven", "" + x.costAt(6, 6) + x.costAt(0, 6)
            + x.costAt(5, 6) + x.costAt(6, 5), "1000100033");
    }

    private static void setForbiddenSays() {
        Document.says(6, "- `forbidden`: whether the cell is forbidden afterwards");
        ChoreAssignment x = Tables.of("5");
        x.setForbidden(0, 0, false);
        Check.same("false on an allowed cell", x.costAt(0, 0), 5);
        x.setForbidden(0, 0, true);
        Check.same("true on an allowed cell", x.costAt(0, 0), 1000);
        x.setForbidden(0, 0, true);
        Check.same("true on a forbidden cell", x.costAt(0, 0), 1000);
        x.setForbidden(0, 0, false);
        Check.same("false on a forbidden cell", x.costAt(0, 0), 5);
    }

    private static void setForbiddenCounts() {
        Document.says(6, "Returns the number of forbidden cells afterwards.");
        ChoreAssignment x = Tables.level(7, 7, 3);
        Check.same("allow where none is forbidden", x.setForbidden(0, 0, false), 0);
        for (int cell = 0; cell < 49; cell++) {
            Check.same("forbid", x.setForbidden(cell / 7, cell % 7, true), cell + 1);
            Check.same("forbid again", x.setForbidden(cell / 7, cell % 7, true), cell + 1);
        }
        for (int cell = 48; cell >= 0; cell--) {
            Check.same("allow", x.setForbidden(cell / 7, cell % 7, false), cell);
            Check.same("allow again", x.setForbidden(cell / 7, cell % 7, false), cell);
        }
        x.resize(3, 1);
        Check.same("dummy columns have none", x.setForbidden(2, 0, true), 1);
    }

    private static void setForbiddenRefuses() {
        Document.says(6, "- `row`: 0 to n - 1");
        Ranges.upToN("setForbidden row", (x, row) -> x.setForbidden(row, 0, true));
        Ranges.upToN("setForbidden row, false", (x, row) -> x.setForbidden(row, 0, false));
        Document.says(6, "- `column`: index of a real column");
        Ranges.upToM("setForbidden column", (x, column) -> x.setForbidden(0, column, true));
        Ranges.upToM("setForbidden column, false", (x, column) -> x.setForbidden(0, column, false));
        Document.says(6, "Throws `IndexOutOfBoundsException` if there is no such row or real "
            + "column");
        int[][] wrong = {{3, 0}, {-1, 0}, {0, -1}, {0, 2}, {2, 2}, {3, 2}, {1, 7}, {-1, 8}};
        for (int[] cell : wrong) {
            Whole.refused("setForbidden " + cell[0] + " " + cell[1], Tables::midway,
                Tables.INDEX, x -> x.setForbidden(cell[0], cell[1], true));
            Whole.refused("setForbidden " + cell[0] + " " + cell[1] + " false", Tables::midway,
                Tables.INDEX, x -> x.setForbidden(cell[0], cell[1], false));
        }
    }

    private static void costAtAnswers() {
        Document.says(7, "Returns the cost of a cell.", "Returns its cost.");
        ChoreAssignment x = Tables.of("0 99 / x0 x99 / 5 6");
        int[][] due = {{0, 99, 0}, {1000, 1000, 0}, {5, 6, 0}};
        for (int row = 0; row < 3; row++) {
            for (int column = 0; column < 3; column++) {
                Check.same("costAt " + row + " " + column, x.costAt(row, column),
                    due[row][column]);
            }
        }
    }

    private static void costAtRefuses() {
        Document.says(7, "- `row`: 0 to n - 1");
        Ranges.upToN("costAt row", (x, row) -> x.costAt(row, 0));
        Document.says(7, "- `column`: 0 to n - 1");
        Ranges.upToN("costAt column", (x, column) -> x.costAt(0, column));
        Document.says(7, "Throws `IndexOutOfBoundsException` if there is no such row or column");
        int[][] wrong = {{3, 0}, {-1, 0}, {0, -1}, {0, 3}, {3, 3}, {-1, -1}, {-1, 7}, {7, -1}};
        for (int[] cell : wrong) {
            Whole.refused("costAt " + cell[0] + " " + cell[1], Tables::midway, Tables.INDEX,
                x -> x.costAt(cell[0], cell[1]));
        }
    }
}
