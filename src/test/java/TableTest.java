/** Promises 1 to 19: the table. */
public final class TableTest {
    private TableTest() {
    }

    private static void promise1ANewObject() {
        ChoreAssignment x = new ChoreAssignment();
        Check.same("NONE", ChoreAssignment.NONE, -1);
        Check.same("new rows", x.rows(), 1);
        Check.same("new columns", x.columns(), 1);
        Check.same("new costs", Tables.costs(x), "0");
        Check.same("new forbiddenCount", x.forbiddenCount(), 0);
        Check.same("new stepsMade", x.stepsMade(), -1);
        Check.same("new distance", x.distance(), 0);
        Check.same("new savedMinimum", x.savedMinimum(), 0);
        x.setCost(0, 0, 50);
        Check.same("new restore", x.restore(), 1);
        Check.same("new restored", Tables.costs(x), "0");
    }

    private static void promise2Resize() {
        for (int rows = 1; rows <= 7; rows++) {
            for (int columns = 1; columns <= rows; columns++) {
                ChoreAssignment x = Tables.three();
                x.setForbidden(1, 1, true);
                int due = rows * columns;
                Check.same("resize " + rows + " " + columns, x.resize(rows, columns), due);
                Check.same("resized rows", x.rows(), rows);
                Check.same("resized columns", x.columns(), columns);
                Check.same("resized totalCost", x.totalCost(), 0);
                Check.same("resized forbiddenCount", x.forbiddenCount(), 0);
            }
        }
        ChoreAssignment x = Tables.three();
        x.setForbidden(2, 2, true);
        x.resize(1, 1);
        x.resize(3, 3);
        Check.same("no number comes back", Tables.costs(x), "0 0 0 / 0 0 0 / 0 0 0");
        x.setForbidden(0, 0, true);
        x.resize(3, 3);
        x.setForbidden(0, 0, false);
        Check.same("none under a forbidden cell", x.costAt(0, 0), 0);
        Tables.cancels("resize to the same", x, 9, () -> x.resize(3, 3));
    }

    private static void promise2Refused() {
        ChoreAssignment x = Tables.three();
        x.startEnumeration();
        int[][] wrong = {{0, 1}, {8, 1}, {8, 8}, {3, 0}, {3, 4}, {7, 8}, {0, 0}, {1, 2}};
        for (int[] size : wrong) {
            Tables.refused("resize " + size[0] + " " + size[1], x, Tables.ARGUMENT,
                () -> x.resize(size[0], size[1]));
        }
        for (int wild : Tables.WILD) {
            Tables.refused("resize rows " + wild, x, Tables.ARGUMENT, () -> x.resize(wild, 1));
            Tables.refused("resize columns " + wild, x, Tables.ARGUMENT, () -> x.resize(3, wild));
        }
        Check.same("stepsMade after refused", x.stepsMade(), 0);
    }

    private static void promise3SetCost() {
        ChoreAssignment x = Tables.idle();
        Check.same("setCost", x.setCost(0, 1, 99), 7);
        Check.same("setCost again", x.setCost(0, 1, 0), 99);
        Check.same("setCost costs", Tables.costs(x), "4 0 0 / 1 6 0 / 2 2 0");
        x.setForbidden(1, 0, true);
        Check.same("setCost forbidden", x.setCost(1, 0, 44), 1);
        Check.same("still forbidden", x.costAt(1, 0), 1000);
        Check.same("setCost forbidden again", x.setCost(1, 0, 45), 44);
        x.setForbidden(1, 0, false);
        Check.same("number kept", x.costAt(1, 0), 45);
        Tables.cancels("setCost to the same", x, 2, () -> x.setCost(2, 0, 2));
    }

    private static void promise3Refused() {
        ChoreAssignment x = Tables.idle();
        x.startEnumeration();
        Tables.refused("setCost row 3", x, Tables.INDEX, () -> x.setCost(3, 0, 5));
        Tables.refused("setCost column 2", x, Tables.INDEX, () -> x.setCost(0, 2, 5));
        Tables.refused("setCost column 3", x, Tables.INDEX, () -> x.setCost(0, 3, 5));
        Tables.refused("setCost 100", x, Tables.ARGUMENT, () -> x.setCost(0, 0, 100));
        Tables.refused("setCost both", x, Tables.INDEX, () -> x.setCost(0, 2, 100));
        for (int wild : Tables.WILD) {
            Tables.refused("setCost row", x, Tables.INDEX, () -> x.setCost(wild, 0, 5));
            Tables.refused("setCost column", x, Tables.INDEX, () -> x.setCost(0, wild, 5));
            Tables.refused("setCost number", x, Tables.ARGUMENT, () -> x.setCost(0, 0, wild));
        }
    }

    private static void promise4SetRow() {
        ChoreAssignment x = Tables.idle();
        Check.same("setRow", x.setRow(1, 9908L), 8);
        Check.same("setRow costs", Tables.costs(x), "4 7 0 / 99 8 0 / 2 2 0");
        Check.same("setRow 0", x.setRow(1, 0L), 0);
        Check.same("setRow greatest", x.setRow(1, 9999L), 99);
        x.setForbidden(2, 1, true);
        Check.same("smallest is forbidden", x.setRow(2, 3004L), 4);
        Check.same("still forbidden", x.costAt(2, 1), 1000);
        x.setForbidden(2, 1, false);
        Check.same("setRow after", Tables.costs(x), "4 7 0 / 99 99 0 / 30 4 0");
        Tables.cancels("setRow to the same", x, 4, () -> x.setRow(0, 407L));
        x.resize(7, 7);
        Check.same("setRow of 7", x.setRow(6, 99010203040506L), 1);
        Check.same("first of 7", x.costAt(6, 0), 99);
        Check.same("last of 7", x.costAt(6, 6), 6);
        Check.same("setRow most", x.setRow(6, 99999999999999L), 99);
    }

    private static void promise4Refused() {
        ChoreAssignment x = Tables.idle();
        x.startEnumeration();
        Tables.refused("setRow 100 to the m", x, Tables.ARGUMENT, () -> x.setRow(0, 10000L));
        Tables.refused("setRow -1", x, Tables.ARGUMENT, () -> x.setRow(0, -1L));
        Tables.refused("setRow least", x, Tables.ARGUMENT, () -> x.setRow(0, Long.MIN_VALUE));
        Tables.refused("setRow most", x, Tables.ARGUMENT, () -> x.setRow(0, Long.MAX_VALUE));
        Tables.refused("setRow 2 to 32", x, Tables.ARGUMENT, () -> x.setRow(0, 1L << 32));
        Tables.refused("setRow row 3", x, Tables.INDEX, () -> x.setRow(3, 1L));
        Tables.refused("setRow both", x, Tables.INDEX, () -> x.setRow(3, -1L));
        for (int wild : Tables.WILD) {
            Tables.refused("setRow row", x, Tables.INDEX, () -> x.setRow(wild, 1L));
        }
        ChoreAssignment seven = new ChoreAssignment();
        seven.resize(7, 7);
        Tables.refused("setRow 100 to the 7", seven, Tables.ARGUMENT,
            () -> seven.setRow(0, 100000000000000L));
    }

    private static void promise5Fill() {
        ChoreAssignment x = new ChoreAssignment();
        x.resize(2, 2);
        x.setForbidden(0, 1, true);
        Check.same("fill", x.fill(0, 99), 160);
        Check.same("fill costs", Tables.costs(x), "11 18 / 70 61");
        Check.same("fill allows", x.forbiddenCount(), 0);
        Check.same("fill most 0", x.fill(9999, 0), 0);
        Check.same("fill most 0 costs", Tables.costs(x), "0 0 / 0 0");
        x.resize(1, 1);
        Check.same("fill seed 9999", x.fill(9999, 99), 22);
        x.resize(2, 1);
        Check.same("fill with a dummy column", x.fill(0, 99), 29);
        Check.same("real cells only", Tables.costs(x), "11 0 / 18 0");
        Tables.cancels("fill with the same", x, 29, () -> x.fill(0, 99));
        x.startEnumeration();
        int[][] wrong = {{-1, 5}, {10000, 5}, {5, -1}, {5, 100}};
        for (int[] pair : wrong) {
            Tables.refused("fill " + pair[0] + " " + pair[1], x, Tables.ARGUMENT,
                () -> x.fill(pair[0], pair[1]));
        }
        for (int wild : Tables.WILD) {
            Tables.refused("fill seed", x, Tables.ARGUMENT, () -> x.fill(wild, 5));
            Tables.refused("fill most", x, Tables.ARGUMENT, () -> x.fill(5, wild));
        }
    }

    private static void promise6SetForbidden() {
        ChoreAssignment x = Tables.idle();
        Check.same("setForbidden", x.setForbidden(0, 1, true), 1);
        Check.same("setForbidden another", x.setForbidden(2, 0, true), 2);
        Check.same("setForbidden the same", x.setForbidden(2, 0, true), 2);
        Check.same("forbidden costs", Tables.costs(x), "4 1000 0 / 1 6 0 / 1000 2 0");
        Check.same("allow", x.setForbidden(0, 1, false), 1);
        Check.same("allow an allowed one", x.setForbidden(0, 0, false), 1);
        Check.same("number kept", x.costAt(0, 1), 7);
        Tables.cancels("setForbidden to the same", x, 1, () -> x.setForbidden(0, 0, false));
        x.startEnumeration();
        Tables.refused("setForbidden row", x, Tables.INDEX, () -> x.setForbidden(3, 0, true));
        Tables.refused("setForbidden dummy", x, Tables.INDEX, () -> x.setForbidden(0, 2, true));
        for (int wild : Tables.WILD) {
            Tables.refused("setForbidden row", x, Tables.INDEX,
                () -> x.setForbidden(wild, 0, true));
            Tables.refused("setForbidden column", x, Tables.INDEX,
                () -> x.setForbidden(0, wild, false));
        }
    }

    private static void promise7CostAt() {
        ChoreAssignment x = Tables.idle();
        x.setForbidden(1, 1, true);
        Check.same("costAt", x.costAt(2, 1), 2);
        Check.same("costAt forbidden", x.costAt(1, 1), 1000);
        Check.same("costAt dummy", x.costAt(0, 2), 0);
        Tables.refused("costAt row 3", x, Tables.INDEX, () -> x.costAt(3, 0));
        Tables.refused("costAt column 3", x, Tables.INDEX, () -> x.costAt(0, 3));
        for (int wild : Tables.WILD) {
            Tables.refused("costAt row", x, Tables.INDEX, () -> x.costAt(wild, 0));
            Tables.refused("costAt column", x, Tables.INDEX, () -> x.costAt(0, wild));
        }
    }

    private static void promise8AddToRow() {
        ChoreAssignment x = Tables.three();
        Check.same("addToRow", x.addToRow(0, 95), 293);
        Check.same("addToRow costs", Tables.costs(x), "99 96 98 / 2 0 5 / 3 2 2");
        Check.same("addToRow less", x.addToRow(0, -96), 5);
        Check.same("addToRow costs", Tables.costs(x), "3 0 2 / 2 0 5 / 3 2 2");
        x.setForbidden(1, 1, true);
        Check.same("another row is forbidden", x.addToRow(2, 1), 10);
        Tables.cancels("addToRow 0", x, 5, () -> x.addToRow(0, 0));
        x.resize(2, 2);
        Check.same("addToRow 99", x.addToRow(1, 99), 198);
        Check.same("addToRow -99", x.addToRow(1, -99), 0);
        ChoreAssignment half = new ChoreAssignment();
        half.resize(2, 2);
        half.setRow(0, 5L);
        half.addToRow(0, 94);
        Check.same("addToRow up to 99", Tables.costs(half), "94 99 / 0 0");
        Tables.refused("addToRow, the first fits", half, Tables.STATE, () -> half.addToRow(0, 5));
        Check.same("nothing is added", Tables.costs(half), "94 99 / 0 0");
    }

    private static void promise8Refused() {
        ChoreAssignment x = Tables.three();
        x.setForbidden(1, 2, true);
        x.startEnumeration();
        Tables.refused("addToRow over 99", x, Tables.STATE, () -> x.addToRow(0, 96));
        Tables.refused("addToRow below 0", x, Tables.STATE, () -> x.addToRow(0, -2));
        Tables.refused("addToRow forbidden", x, Tables.STATE, () -> x.addToRow(1, 0));
        Tables.refused("addToRow 100", x, Tables.ARGUMENT, () -> x.addToRow(0, 100));
        Tables.refused("addToRow -100", x, Tables.ARGUMENT, () -> x.addToRow(0, -100));
        Tables.refused("addToRow 100 to forbidden", x, Tables.ARGUMENT, () -> x.addToRow(1, 100));
        Tables.refused("addToRow row 3", x, Tables.INDEX, () -> x.addToRow(3, 100));
        for (int wild : Tables.WILD) {
            Tables.refused("addToRow row", x, Tables.INDEX, () -> x.addToRow(wild, 1));
        }
        Tables.refused("addToRow most", x, Tables.ARGUMENT,
            () -> x.addToRow(0, Integer.MAX_VALUE));
        Tables.refused("addToRow least", x, Tables.ARGUMENT,
            () -> x.addToRow(0, Integer.MIN_VALUE));
        ChoreAssignment idle = Tables.idle();
        Tables.refused("addToRow dummy", idle, Tables.STATE, () -> idle.addToRow(0, 0));
        Tables.refused("addToRow dummy 100", idle, Tables.ARGUMENT, () -> idle.addToRow(0, 100));
        Tables.refused("addToRow dummy row", idle, Tables.INDEX, () -> idle.addToRow(3, 0));
    }

    private static void promise9AddToColumn() {
        ChoreAssignment x = Tables.idle();
        Check.same("addToColumn", x.addToColumn(1, 92), 291);
        Check.same("addToColumn costs", Tables.costs(x), "4 99 0 / 1 98 0 / 2 94 0");
        Check.same("addToColumn less", x.addToColumn(0, -1), 4);
        Check.same("addToColumn costs", Tables.costs(x), "3 99 0 / 0 98 0 / 1 94 0");
        x.setForbidden(1, 1, true);
        Check.same("another column is forbidden", x.addToColumn(0, 2), 10);
        Tables.cancels("addToColumn 0", x, 10, () -> x.addToColumn(0, 0));
        x.resize(3, 1);
        Check.same("addToColumn 99", x.addToColumn(0, 99), 297);
        Check.same("addToColumn -99", x.addToColumn(0, -99), 0);
        x.setCost(2, 0, 1);
        Tables.refused("addToColumn, two fit", x, Tables.STATE, () -> x.addToColumn(0, 99));
        Check.same("nothing is added", Tables.costs(x), "0 0 0 / 0 0 0 / 1 0 0");
    }

    private static void promise9Refused() {
        ChoreAssignment x = Tables.idle();
        x.setForbidden(2, 1, true);
        x.startEnumeration();
        Tables.refused("addToColumn over 99", x, Tables.STATE, () -> x.addToColumn(0, 96));
        Tables.refused("addToColumn below 0", x, Tables.STATE, () -> x.addToColumn(0, -2));
        Tables.refused("addToColumn forbidden", x, Tables.STATE, () -> x.addToColumn(1, 0));
        Tables.refused("addToColumn 100", x, Tables.ARGUMENT, () -> x.addToColumn(1, 100));
        Tables.refused("addToColumn -100", x, Tables.ARGUMENT, () -> x.addToColumn(0, -100));
        Tables.refused("addToColumn dummy", x, Tables.INDEX, () -> x.addToColumn(2, 0));
        Tables.refused("addToColumn both", x, Tables.INDEX, () -> x.addToColumn(2, 100));
        for (int wild : Tables.WILD) {
            Tables.refused("addToColumn column", x, Tables.INDEX, () -> x.addToColumn(wild, 1));
        }
        Tables.refused("addToColumn most", x, Tables.ARGUMENT,
            () -> x.addToColumn(0, Integer.MAX_VALUE));
        Tables.refused("addToColumn least", x, Tables.ARGUMENT,
            () -> x.addToColumn(0, Integer.MIN_VALUE));
    }

    private static void promise10SwapRows() {
        ChoreAssignment x = Tables.idle();
        x.setForbidden(0, 1, true);
        Check.same("swapRows", x.swapRows(0, 2), 4);
        Check.same("swapRows costs", Tables.costs(x), "2 2 0 / 1 6 0 / 4 1000 0");
        Check.same("swapRows to a forbidden one", x.swapRows(1, 2), 1004);
        x.setForbidden(1, 1, false);
        Check.same("number comes along", Tables.costs(x), "2 2 0 / 4 7 0 / 1 6 0");
        Tables.cancels("swapRows with itself", x, 11, () -> x.swapRows(1, 1));
        x.startEnumeration();
        Tables.refused("swapRows row 3", x, Tables.INDEX, () -> x.swapRows(3, 0));
        Tables.refused("swapRows other 3", x, Tables.INDEX, () -> x.swapRows(0, 3));
        for (int wild : Tables.WILD) {
            Tables.refused("swapRows row", x, Tables.INDEX, () -> x.swapRows(wild, 0));
            Tables.refused("swapRows other", x, Tables.INDEX, () -> x.swapRows(0, wild));
        }
    }

    private static void promise11SwapColumns() {
        ChoreAssignment x = Tables.idle();
        x.setForbidden(1, 0, true);
        Check.same("swapColumns", x.swapColumns(0, 1), 15);
        Check.same("swapColumns costs", Tables.costs(x), "7 4 0 / 6 1000 0 / 2 2 0");
        Check.same("swapColumns back", x.swapColumns(0, 1), 1006);
        x.swapColumns(1, 0);
        x.setForbidden(1, 1, false);
        Check.same("number comes along", Tables.costs(x), "7 4 0 / 6 1 0 / 2 2 0");
        Tables.cancels("swapColumns with itself", x, 7, () -> x.swapColumns(1, 1));
        x.setCost(2, 0, 3);
        x.swapColumns(1, 0);
        Check.same("the last row too", Tables.costs(x), "4 7 0 / 1 6 0 / 2 3 0");
        x.swapColumns(0, 1);
        x.startEnumeration();
        Tables.refused("swapColumns dummy", x, Tables.INDEX, () -> x.swapColumns(2, 0));
        Tables.refused("swapColumns other dummy", x, Tables.INDEX, () -> x.swapColumns(0, 2));
        Tables.refused("swapColumns dummies", x, Tables.INDEX, () -> x.swapColumns(2, 2));
        for (int wild : Tables.WILD) {
            Tables.refused("swapColumns column", x, Tables.INDEX, () -> x.swapColumns(wild, 0));
            Tables.refused("swapColumns other", x, Tables.INDEX, () -> x.swapColumns(0, wild));
        }
    }

    private static void promise12Transpose() {
        ChoreAssignment x = Tables.three();
        x.setForbidden(0, 2, true);
        Check.same("transpose", x.transpose(), 3);
        Check.same("transpose costs", Tables.costs(x), "4 2 3 / 1 0 2 / 1000 5 2");
        x.setForbidden(2, 0, false);
        Check.same("number comes along", x.costAt(2, 0), 3);
        Tables.cancels("transpose", x, 3, x::transpose);
        ChoreAssignment one = new ChoreAssignment();
        Tables.cancels("transpose of one", one, 1, one::transpose);
        ChoreAssignment idle = Tables.idle();
        idle.startEnumeration();
        Tables.refused("transpose dummy", idle, Tables.STATE, idle::transpose);
    }

    private static void promise13And14SaveAndRestore() {
        ChoreAssignment x = Tables.idle();
        x.setForbidden(2, 1, true);
        x.startEnumeration();
        x.nextSum();
        Check.same("save", x.save(), 1020);
        Check.same("save goes on with the enumeration", x.stepsMade(), 1);
        x.setCost(0, 0, 77);
        Check.same("saved is apart", x.distance(), 73);
        x.resize(5, 5);
        Check.same("restore", x.restore(), 3);
        Check.same("restored columns", x.columns(), 2);
        Check.same("restored costs", Tables.costs(x), "4 7 0 / 1 6 0 / 2 1000 0");
        x.setCost(0, 0, 78);
        x.setForbidden(2, 1, false);
        Check.same("restored number", Tables.costs(x), "78 7 0 / 1 6 0 / 2 2 0");
        Check.same("restore again", x.restore(), 3);
        Check.same("saved is kept", Tables.costs(x), "4 7 0 / 1 6 0 / 2 1000 0");
        Tables.cancels("restore the same", x, 3, x::restore);
    }

    private static void promise15Distance() {
        ChoreAssignment x = Tables.idle();
        x.save();
        Check.same("distance of equals", x.distance(), 0);
        x.setCost(0, 0, 1);
        x.setCost(1, 0, 9);
        Check.same("distance", x.distance(), 11);
        x.setForbidden(0, 1, true);
        Check.same("distance of a forbidden one", x.distance(), 1004);
        x.save();
        x.setCost(0, 1, 50);
        Check.same("distance of two forbidden ones", x.distance(), 0);
        x.resize(3, 3);
        Check.same("another m", x.distance(), -1);
        x.resize(2, 2);
        Check.same("another n", x.distance(), -1);
    }

    /** The last row and column of the largest table there is. */
    private static void promise7To15OfSeven() {
        ChoreAssignment x = new ChoreAssignment();
        x.resize(7, 7);
        x.save();
        x.setCost(6, 6, 9);
        x.setCost(6, 0, 4);
        Check.same("addToRow of seven", x.addToRow(6, 1), 20);
        Check.same("addToColumn of seven", x.addToColumn(6, 1), 17);
        Check.same("swapRows of seven", x.swapRows(6, 0), 1);
        Check.same("swapRows, the other", x.costAt(0, 6), 11);
        Check.same("swapColumns of seven", x.swapColumns(6, 0), 5);
        Check.same("swapColumns, the other", x.costAt(0, 0), 11);
        Check.same("transpose of seven", x.transpose(), 7);
        Check.same("the last cell of column 0", x.costAt(6, 0), 5);
        Check.same("totalCost of seven", x.totalCost(), 27);
        Check.same("distance of seven", x.distance(), 27);
        Check.same("restore of seven", x.restore(), 7);
        Check.same("distance, restored", x.distance(), 0);
        x.setCost(6, 6, 3);
        Check.same("distance of the last cell", x.distance(), 3);
    }

    private static void promise16To19Counts() {
        ChoreAssignment x = Tables.idle();
        Check.same("rows", x.rows(), 3);
        Check.same("columns", x.columns(), 2);
        Check.same("forbiddenCount", x.forbiddenCount(), 0);
        Check.same("totalCost", x.totalCost(), 22);
        x.setForbidden(0, 0, true);
        x.setForbidden(2, 1, true);
        Check.same("forbiddenCount of 2", x.forbiddenCount(), 2);
        Check.same("totalCost with forbidden ones", x.totalCost(), 2016);
        x.resize(7, 7);
        for (int cell = 0; cell < 49; cell++) {
            x.setForbidden(cell / 7, cell % 7, true);
        }
        Check.same("forbiddenCount of all", x.forbiddenCount(), 49);
        Check.same("totalCost of all", x.totalCost(), 49000);
    }

    public static void main(String[] args) {
        promise1ANewObject();
        promise2Resize();
        promise2Refused();
        promise3SetCost();
        promise3Refused();
        promise4SetRow();
        promise4Refused();
        promise5Fill();
        promise6SetForbidden();
        promise7CostAt();
        promise8AddToRow();
        promise8Refused();
        promise9AddToColumn();
        promise9Refused();
        promise10SwapRows();
        promise11SwapColumns();
        promise12Transpose();
        promise13And14SaveAndRestore();
        promise15Distance();
        promise7To15OfSeven();
        promise16To19Counts();
        Check.end();
    }
}
