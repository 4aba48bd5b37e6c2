/** The edges that the promises 8 to 19 name. */
final class ChangeEdges {
    private ChangeEdges() {
    }

    static void all() {
        addToRowAdds();
        addToRowRanges();
        addToRowRefuses();
        addToColumnAdds();
        addToColumnRanges();
        addToColumnRefuses();
        swapRowsExchanges();
        swapRowsRanges();
        swapColumnsExchanges();
        swapColumnsRanges();
        transposeExchanges();
        transposeRefuses();
        saveCopies();
        restoreReplaces();
        distanceSums();
        distanceNone();
        countsOfSizes();
        countsOfForbidden();
        sumsOfAll();
    }

    private static void addToRowAdds() {
        Document.says(8, "Adds a number to all costs of a row.",
            "Returns the sum of the costs of the row afterwards.");
        ChoreAssignment x = Tables.of("0 1 / 5 x6");
        Check.same("addToRow 98", x.addToRow(0, 98), 197);
        Check.same("the last cell too, the other row not", Tables.costs(x), "98 99 / 5 1000");
        Check.same("addToRow -98", x.addToRow(0, -98), 1);
        Check.same("addToRow 0", x.addToRow(0, 0), 1);
        Check.same("costs", Tables.costs(x), "0 1 / 5 1000");
        ChoreAssignment seven = Tables.level(7, 7, 0);
        Check.same("addToRow of seven", seven.addToRow(6, 99), 693);
        Check.same("the last row alone", seven.totalCost(), 693);
        Check.same("its cells", seven.costAt(6, 0) + seven.costAt(6, 6), 198);
        Check.same("addToRow of one", Tables.of("7").addToRow(0, 5), 12);
    }

    private static void addToRowRanges() {
        Document.says(8, "- `row`: 0 to n - 1",
            "Throws `IndexOutOfBoundsException` if there is no such row");
        Ranges.upToNOfReal("addToRow row", (x, row) -> x.addToRow(row, 1));
        for (int number : new int[] {0, 99, 100, -100}) {
            Whole.refused("addToRow 3 " + number + ", a dummy column", Tables::midway,
                Tables.INDEX, x -> x.addToRow(3, number));
            Whole.refused("addToRow -1 " + number + ", a dummy column", Tables::midway,
                Tables.INDEX, x -> x.addToRow(-1, number));
            Whole.refused("addToRow 2 " + number + ", forbidden ones", () -> Tables.shut(2, 2),
                Tables.INDEX, x -> x.addToRow(2, number));
        }
        Document.says(8, "- `number`: -99 to 99",
            "Throws `IllegalArgumentException` if number is out of range");
        Check.same("addToRow 99", Tables.level(2, 2, 0).addToRow(0, 99), 198);
        Check.same("addToRow -99", Tables.level(2, 2, 99).addToRow(1, -99), 0);
        int[] wrong = {100, -100, 1000, -1000, Integer.MIN_VALUE, Integer.MAX_VALUE};
        for (int number : wrong) {
            Whole.refused("addToRow " + number, () -> Tables.level(2, 2, 50), Tables.ARGUMENT,
                x -> x.addToRow(0, number));
            Whole.refused("addToRow " + number + ", a dummy column", Tables::midway,
                Tables.ARGUMENT, x -> x.addToRow(0, number));
            Whole.refused("addToRow " + number + ", forbidden ones", () -> Tables.shut(2, 2),
                Tables.ARGUMENT, x -> x.addToRow(0, number));
        }
    }

    private static void addToRowRefuses() {
        Document.says(8, "Throws `IllegalStateException` if there is a dummy column, a cell of the "
            + "row is forbidden, or one of its numbers would not be 0 to 99");
        for (int number : new int[] {0, 1, -1, 99, -99}) {
            Whole.refused("addToRow " + number + ", a dummy column", Tables::midway, Tables.STATE,
                x -> x.addToRow(0, number));
            Whole.refused("addToRow " + number + ", one real column of 7",
                () -> Tables.level(7, 6, 0), Tables.STATE, x -> x.addToRow(6, number));
        }
        String[] forbidden = {"x5 5 5", "5 x5 5", "5 5 x5", "x5 x5 x5"};
        for (String row : forbidden) {
            Whole.refused("addToRow 0 to " + row, () -> walked("5 5 5 / 5 5 5 / " + row),
                Tables.STATE, x -> x.addToRow(2, 0));
            Check.same("to another row", Tables.of("5 5 5 / 5 5 5 / " + row).addToRow(1, 0), 15);
        }
        String[] spread = {"10 50 89", "50 10 89", "89 50 10", "10 89 50"};
        for (String row : spread) {
            String cells = "0 99 0 / " + row + " / x1 1 1";
            Check.same("up to 99", Tables.of(cells).addToRow(1, 10), 179);
            Check.same("down to 0", Tables.of(cells).addToRow(1, -10), 119);
            Whole.refused("over 99", () -> walked(cells), Tables.STATE, x -> x.addToRow(1, 11));
            Whole.refused("below 0", () -> walked(cells), Tables.STATE, x -> x.addToRow(1, -11));
            Whole.refused("far over", () -> walked(cells), Tables.STATE, x -> x.addToRow(1, 99));
            Whole.refused("far below", () -> walked(cells), Tables.STATE, x -> x.addToRow(1, -99));
        }
    }

    /** A table of which one assignment was visited. */
    private static ChoreAssignment walked(String cells) {
        ChoreAssignment x = Tables.of(cells);
        x.startEnumeration();
        x.nextSum();
        return x;
    }

    private static void addToColumnAdds() {
        Document.says(9, "Adds a number to all costs of a real column.",
            "Returns the sum of the costs of the column afterwards.");
        ChoreAssignment x = Tables.of("0 x5 / 1 6 / 0 7");
        Check.same("addToColumn 98", x.addToColumn(0, 98), 295);
        Check.same("the last row too, the others not", Tables.costs(x),
            "98 1000 0 / 99 6 0 / 98 7 0");
        Check.same("addToColumn -98", x.addToColumn(0, -98), 1);
        Check.same("addToColumn 0", x.addToColumn(0, 0), 1);
        Check.same("costs", Tables.costs(x), "0 1000 0 / 1 6 0 / 0 7 0");
        ChoreAssignment seven = Tables.level(7, 7, 0);
        Check.same("addToColumn of seven", seven.addToColumn(6, 99), 693);
        Check.same("the last column alone", seven.totalCost(), 693);
        Check.same("its cells", seven.costAt(0, 6) + seven.costAt(6, 6), 198);
        Check.same("addToColumn of one", Tables.of("7").addToColumn(0, 5), 12);
    }

    private static void addToColumnRanges() {
        Document.says(9, "- `column`: index of a real column",
            "Throws `IndexOutOfBoundsException` if there is no such real column");
        Ranges.upToM("addToColumn column", (x, column) -> x.addToColumn(column, 1));
        for (int number : new int[] {0, 99, 100, -100}) {
            Whole.refused("addToColumn 2 " + number, Tables::midway, Tables.INDEX,
                x -> x.addToColumn(2, number));
            Whole.refused("addToColumn -1 " + number, Tables::midway, Tables.INDEX,
                x -> x.addToColumn(-1, number));
            Whole.refused("addToColumn 2 " + number + ", forbidden ones",
                () -> Tables.shut(3, 2), Tables.INDEX, x -> x.addToColumn(2, number));
        }
        Document.says(9, "- `number`: -99 to 99",
            "Throws `IllegalArgumentException` if number is out of range");
        Check.same("addToColumn 99", Tables.level(3, 2, 0).addToColumn(0, 99), 297);
        Check.same("addToColumn -99", Tables.level(3, 2, 99).addToColumn(1, -99), 0);
        int[] wrong = {100, -100, 1000, -1000, Integer.MIN_VALUE, Integer.MAX_VALUE};
        for (int number : wrong) {
            Whole.refused("addToColumn " + number, Tables::midway, Tables.ARGUMENT,
                x -> x.addToColumn(0, number));
            Whole.refused("addToColumn " + number + ", a forbidden one", Tables::midway,
                Tables.ARGUMENT, x -> x.addToColumn(1, number));
        }
    }

    private static void addToColumnRefuses() {
        Document.says(9, "Throws `IllegalStateException` if a cell of the column is forbidden, or "
            + "one of its numbers would not be 0 to 99");
        String[] forbidden = {"1 x5 / 1 5 / 1 5", "1 5 / 1 x5 / 1 5", "1 5 / 1 5 / 1 x5"};
        for (String cells : forbidden) {
            for (int number : new int[] {0, 1, -1, 99, -99}) {
                Whole.refused("addToColumn " + number + " in " + cells, () -> walked(cells),
                    Tables.STATE, x -> x.addToColumn(1, number));
            }
            Check.same("to another column", Tables.of(cells).addToColumn(0, 0), 3);
        }
        String[] spread = {"0 10 / 99 50 / 0 89", "0 50 / 99 10 / 0 89", "0 89 / 99 50 / 0 10",
            "0 10 / 99 89 / 0 50"};
        for (String cells : spread) {
            Check.same("up to 99", Tables.of(cells).addToColumn(1, 10), 179);
            Check.same("down to 0", Tables.of(cells).addToColumn(1, -10), 119);
            for (int number : new int[] {11, -11, 99, -99}) {
                Whole.refused("addToColumn " + number + " in " + cells, () -> walked(cells),
                    Tables.STATE, x -> x.addToColumn(1, number));
            }
        }
    }

    private static void swapRowsExchanges() {
        Document.says(10, "Exchanges two rows, numbers and forbidden cells alike.",
            "Returns the sum of the costs of the row with index row afterwards.");
        ChoreAssignment x = Tables.of("1 x2 / x3 4 / 5 6");
        Check.same("swapRows 0 1", x.swapRows(0, 1), 1004);
        Check.same("swapRows 1 2", x.swapRows(1, 2), 11);
        Check.same("costs", Tables.costs(x), "1000 4 0 / 5 6 0 / 1 1000 0");
        Check.same("swapRows 2 1, the other way round", x.swapRows(2, 1), 11);
        Check.same("numbers", Whole.numbers(x), "3 4 0 / 1 2 0 / 5 6 0");
        ChoreAssignment seven = Tables.level(7, 7, 3);
        seven.setForbidden(6, 6, true);
        Check.same("swapRows 6 0 of seven", seven.swapRows(6, 0), 21);
        Check.same("the last column too", seven.costAt(0, 6), 1000);
        Document.says(10, "- `other`: 0 to n - 1, may equal row");
        Ranges.upToN("swapRows other", (y, other) -> y.swapRows(0, other));
        ChoreAssignment same = Tables.of("1 x2 / x3 4 / 5 6");
        Check.same("swapRows 0 0", same.swapRows(0, 0), 1001);
        Check.same("swapRows 1 1", same.swapRows(1, 1), 1004);
        Check.same("swapRows 2 2", same.swapRows(2, 2), 11);
        Check.same("costs", Tables.costs(same), "1 1000 0 / 1000 4 0 / 5 6 0");
        Check.same("numbers", Whole.numbers(same), "1 2 0 / 3 4 0 / 5 6 0");
        Check.same("swapRows of one", Tables.of("7").swapRows(0, 0), 7);
    }

    private static void swapRowsRanges() {
        Document.says(10, "- `row`: 0 to n - 1");
        Ranges.upToN("swapRows row", (x, row) -> x.swapRows(row, 0));
        Document.says(10, "Throws `IndexOutOfBoundsException` if there is no such row");
        int[][] wrong = {{3, 0}, {0, 3}, {-1, 0}, {0, -1}, {3, 3}, {-1, -1}, {7, 7}, {-1, 3}};
        for (int[] pair : wrong) {
            Whole.refused("swapRows " + pair[0] + " " + pair[1], Tables::midway, Tables.INDEX,
                x -> x.swapRows(pair[0], pair[1]));
        }
    }

    private static void swapColumnsExchanges() {
        Document.says(11, "Exchanges two real columns, numbers and forbidden cells alike.",
            "Returns the sum of the costs of the column with index column afterwards.");
        ChoreAssignment x = Tables.of("1 x2 / x3 4 / 5 6");
        Check.same("swapColumns 0 1", x.swapColumns(0, 1), 1010);
        Check.same("costs", Tables.costs(x), "1000 1 0 / 4 1000 0 / 6 5 0");
        x.swapColumns(1, 0);
        Check.same("there and back", Tables.costs(x), "1 1000 0 / 1000 4 0 / 5 6 0");
        Check.same("swapColumns 1 0", x.swapColumns(1, 0), 1006);
        Check.same("numbers", Whole.numbers(x), "2 1 0 / 4 3 0 / 6 5 0");
        ChoreAssignment seven = Tables.level(7, 7, 3);
        seven.setForbidden(6, 6, true);
        Check.same("swapColumns 6 0 of seven", seven.swapColumns(6, 0), 21);
        Check.same("the last row too", seven.costAt(6, 0), 1000);
        Document.says(11, "- `other`: index of a real column, may equal column");
        Ranges.upToM("swapColumns other", (y, other) -> y.swapColumns(0, other));
        ChoreAssignment same = Tables.of("1 x2 / x3 4 / 5 6");
        Check.same("swapColumns 0 0", same.swapColumns(0, 0), 1006);
        Check.same("swapColumns 1 1", same.swapColumns(1, 1), 1010);
        Check.same("costs", Tables.costs(same), "1 1000 0 / 1000 4 0 / 5 6 0");
        Check.same("numbers", Whole.numbers(same), "1 2 0 / 3 4 0 / 5 6 0");
        Check.same("swapColumns of one", Tables.of("7").swapColumns(0, 0), 7);
    }

    private static void swapColumnsRanges() {
        Document.says(11, "- `column`: index of a real column");
        Ranges.upToM("swapColumns column", (x, column) -> x.swapColumns(column, 0));
        Document.says(11, "Throws `IndexOutOfBoundsException` if there is no such real column");
        int[][] wrong = {{2, 0}, {0, 2}, {2, 2}, {-1, 0}, {0, -1}, {3, 3}, {-1, -1}, {2, -1}};
        for (int[] pair : wrong) {
            Whole.refused("swapColumns " + pair[0] + " " + pair[1], Tables::midway, Tables.INDEX,
                x -> x.swapColumns(pair[0], pair[1]));
        }
    }

    private static void transposeExchanges() {
        Document.says(12, "Transposes the table, numbers and forbidden cells alike.",
            "Returns n.");
        ChoreAssignment one = Tables.of("x7");
        Check.same("transpose of one", one.transpose(), 1);
        Check.same("forbidden", one.costAt(0, 0), 1000);
        Check.same("number", Whole.numbers(one), "7");
        ChoreAssignment x = Tables.of("x1 2 x3 / 4 5 6 / 7 x8 x9");
        Check.same("transpose", x.transpose(), 3);
        Check.same("costs", Tables.costs(x), "1000 4 7 / 2 5 1000 / 1000 6 1000");
        Check.same("numbers", Whole.numbers(x), "1 4 7 / 2 5 8 / 3 6 9");
        ChoreAssignment seven = Tables.level(7, 7, 3);
        seven.setForbidden(6, 0, true);
        seven.setCost(5, 6, 9);
        Check.same("transpose of seven", seven.transpose(), 7);
        Check.same("its corners", seven.costAt(0, 6) + " " + seven.costAt(6, 0) + " "
            + seven.costAt(6, 5) + " " + seven.costAt(5, 6), "1000 3 9 3");
    }

    private static void transposeRefuses() {
        Document.says(12, "Throws `IllegalStateException` if there is a dummy column");
        for (int n = 1; n <= 7; n++) {
            for (int m = 1; m <= n; m++) {
                int rows = n;
                int real = m;
                if (m < n) {
                    Whole.refused("transpose of " + n + " and " + m,
                        () -> Tables.level(rows, real, 4), Tables.STATE,
                        ChoreAssignment::transpose);
                } else {
                    Check.same("transpose of " + n, Tables.level(n, n, 4).transpose(), n);
                }
            }
        }
        Whole.refused("transpose midway", Tables::midway, Tables.STATE,
            ChoreAssignment::transpose);
    }

    private static void saveCopies() {
        Document.says(13, "Saves the table: the saved table becomes equal to it.",
            "Returns the sum of all n * n costs.");
        Check.same("save of a new object", new ChoreAssignment().save(), 0);
        ChoreAssignment x = Tables.of("1 x2 / 3 4 / x5 6");
        Check.same("save", x.save(), 2014);
        Check.same("distance", x.distance(), 0);
        x.setCost(0, 0, 99);
        x.setForbidden(0, 1, false);
        x.setForbidden(2, 1, true);
        x.restore();
        Check.same("no later change is saved", Tables.costs(x), "1 1000 0 / 3 4 0 / 1000 6 0");
        Check.same("nor of numbers of forbidden cells", Whole.numbers(x), "1 2 0 / 3 4 0 / 5 6 0");
        ChoreAssignment full = Tables.shut(7, 7);
        Check.same("save of the dearest", full.save(), 49000);
        full.resize(1, 1);
        Check.same("save of the smallest", full.save(), 0);
        full.resize(7, 7);
        full.restore();
        Check.same("the one before is forgotten", full.rows() + " " + full.totalCost(), "1 0");
        Whole.keeps("save of the saved table", () -> saved("1 x2 / 3 4 / x5 6"), 2014,
            ChoreAssignment::save);
    }

    private static ChoreAssignment saved(String cells) {
        ChoreAssignment x = walked(cells);
        x.save();
        return x;
    }

    private static void restoreReplaces() {
        Document.says(14, "Replaces the table by the saved table, which is kept.",
            "Returns the new n.");
        ChoreAssignment x = Tables.of("5");
        Check.same("restore before any save", x.restore(), 1);
        Check.same("costs", Tables.costs(x), "0");
        Tables.put(x, "1 x2 / 3 4 / x5 6");
        x.save();
        x.resize(7, 7);
        Check.same("restore into a larger one", x.restore(), 3);
        Check.same("columns", x.columns(), 2);
        x.resize(1, 1);
        Check.same("restore into a smaller one", x.restore(), 3);
        x.resize(3, 3);
        Check.same("restore into one without dummy columns", x.restore(), 3);
        Check.same("columns", x.columns(), 2);
        x.setCost(0, 0, 99);
        x.setForbidden(1, 1, true);
        x.setForbidden(2, 0, false);
        Check.same("the saved table is kept", x.distance(), 98 + 996 + 995);
        x.restore();
        Check.same("costs", Tables.costs(x), "1 1000 0 / 3 4 0 / 1000 6 0");
        Check.same("numbers", Whole.numbers(x), "1 2 0 / 3 4 0 / 5 6 0");
        Check.same("restore after allowing", x.restore(), 3);
        Check.same("is kept", Tables.costs(x), "1 1000 0 / 3 4 0 / 1000 6 0");
    }

    private static void distanceSums() {
        Document.says(15, "Returns the distance of the table and the saved table.",
            "Returns the sum of the absolute differences of their costs over all cells;");
        Check.same("distance of a new object", new ChoreAssignment().distance(), 0);
        ChoreAssignment x = Tables.of("0 99 / x0 x99 / 5 6");
        x.save();
        x.setCost(0, 0, 99);
        x.setCost(0, 1, 0);
        Check.same("up and down do not cancel out", x.distance(), 198);
        x.setCost(1, 0, 50);
        Check.same("numbers of forbidden cells do not count", x.distance(), 198);
        x.setForbidden(1, 1, false);
        Check.same("allowed", x.distance(), 198 + 901);
        x.setForbidden(2, 1, true);
        Check.same("forbidden", x.distance(), 198 + 901 + 994);
        ChoreAssignment full = Tables.shut(7, 7);
        full.save();
        full.resize(7, 7);
        Check.same("the greatest distance", full.distance(), 49000);
        full.save();
        full.setForbidden(6, 6, true);
        Check.same("of the last cell", full.distance(), 1000);
    }

    private static void distanceNone() {
        Document.says(15, "NONE if their n or m differ.");
        for (int n = 1; n <= 7; n++) {
            for (int m = 1; m <= n; m++) {
                ChoreAssignment x = new ChoreAssignment();
                x.resize(4, 2);
                x.save();
                x.resize(n, m);
                Check.same("distance of 4 2 and " + n + " " + m, x.distance(),
                    n == 4 && m == 2 ? 0 : -1);
            }
        }
    }

    private static void countsOfSizes() {
        Document.says(16, "Returns the number of rows.", "Returns n.");
        Check.same("rows of a new object", new ChoreAssignment().rows(), 1);
        Check.same("rows of seven", Tables.level(7, 1, 5).rows(), 7);
        Check.same("rows of seven real", Tables.level(7, 7, 5).rows(), 7);
        Document.says(17, "Returns the number of real columns.", "Returns m.");
        Check.same("columns of a new object", new ChoreAssignment().columns(), 1);
        Check.same("one column of seven", Tables.level(7, 1, 5).columns(), 1);
        Check.same("seven columns", Tables.level(7, 7, 5).columns(), 7);
    }

    private static void countsOfForbidden() {
        Document.says(18, "Counts the forbidden cells.", "Returns the number of forbidden cells.");
        Check.same("none", new ChoreAssignment().forbiddenCount(), 0);
        Check.same("all of one", Tables.shut(1, 1).forbiddenCount(), 1);
        Check.same("all of seven", Tables.shut(7, 7).forbiddenCount(), 49);
        Check.same("no dummy cell", Tables.shut(7, 1).forbiddenCount(), 7);
        Check.same("the last one", Tables.of("0 0 / 0 x0").forbiddenCount(), 1);
        ChoreAssignment x = Tables.shut(7, 7);
        x.resize(2, 2);
        Check.same("none of a larger table", x.forbiddenCount(), 0);
    }

    private static void sumsOfAll() {
        Document.says(19, "Returns the sum of all costs.", "Returns the sum of all n * n costs.");
        Check.same("totalCost of zeros", new ChoreAssignment().totalCost(), 0);
        Check.same("of the greatest numbers", Tables.level(7, 7, 99).totalCost(), 4851);
        Check.same("of forbidden cells", Tables.shut(7, 7).totalCost(), 49000);
        Check.same("of a dummy column", Tables.level(7, 6, 99).totalCost(), 4158);
        Check.same("of the last cell", Tables.of("0 0 / 0 9").totalCost(), 9);
    }
}
