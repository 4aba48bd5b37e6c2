/** Promises 40 to 43: summaries. */
public final class SummaryTest {
    private SummaryTest() {
    }

    private static void promise40MeanCost() {
        Check.same("meanCost", Tables.three().meanCost(), 22.0 / 9.0);
        Check.same("meanCost with a dummy column", Tables.idle().meanCost(), 22.0 / 9.0);
        Check.same("meanCost of zeros", new ChoreAssignment().meanCost(), 0.0);
        Check.same("meanCost with forbidden cells", Tables.barred(2).meanCost(), 750.0);
    }

    private static void promise41ShareOf() {
        ChoreAssignment x = Tables.three();
        Check.same("shareOf 0", x.shareOf(0), 1.0f / 5.0f);
        Check.same("shareOf 1", x.shareOf(1), 2.0f / 5.0f);
        Check.same("shareOf 2", x.shareOf(2), 2.0f / 5.0f);
        Check.same("shareOf an idle row", Tables.idle().shareOf(0), 0.0f);
        Check.same("shareOf a working row", Tables.idle().shareOf(2), 2.0f / 3.0f);
        Check.same("shareOf a forbidden cell", Tables.barred(3).shareOf(0), 1.0f);
        Check.same("shareOf, minimum 0", new ChoreAssignment().shareOf(0), 0.0f);
        int[] wrong = {3, -1, Integer.MIN_VALUE, Integer.MAX_VALUE};
        for (int row : wrong) {
            Tables.refused("shareOf " + row, x, Tables.INDEX, () -> x.shareOf(row));
        }
        ChoreAssignment zero = new ChoreAssignment();
        Tables.refused("shareOf 1 of one", zero, Tables.INDEX, () -> zero.shareOf(1));
    }

    private static long folded(int... values) {
        long h = 17;
        for (int v : values) {
            h = 31 * h + v;
        }
        return h;
    }

    private static void promise42Checksum() {
        ChoreAssignment x = new ChoreAssignment();
        long due = folded(1, 1, 0, 0, -1, 0, 0, 0, 1, 1, 0);
        Check.same("checksum of a new object", x.checksum(), due);
        x.resize(2, 1);
        x.setCost(0, 0, 9);
        x.setForbidden(1, 0, true);
        x.startEnumeration();
        due = folded(2, 1, 1, 1009, 0, 9, 0, 1000, 0, 9, 0, 1, 1, 1, 0);
        Check.same("checksum", x.checksum(), due);
        x.save();
        x.nextSum();
        x.nextSum();
        due = folded(2, 1, 1, 1009, 2, 9, 0, 1000, 0, 9, 0, 1, 2, 1, 9, 0, 1000, 0);
        Check.same("checksum after 2 steps", x.checksum(), due);
        x.resize(1, 1);
        due = folded(1, 1, 0, 0, -1, 0, 0, 0, 2, 1, 9, 0, 1000, 0);
        Check.same("checksum of a smaller table", x.checksum(), due);
        x.resize(2, 2);
        due = folded(2, 2, 0, 0, -1, 0, 0, 0, 0, 0, 0, 1, 2, 1, 9, 0, 1000, 0);
        Check.same("checksum with another m", x.checksum(), due);
    }

    private static void promise43IsSound() {
        Check.same("isSound", Tables.three().isSound(), true);
        Check.same("isSound with a dummy column", Tables.idle().isSound(), true);
        Check.same("isSound of a new object", new ChoreAssignment().isSound(), true);
        for (int n = 1; n <= 7; n++) {
            Check.same("isSound, none allowed", Tables.barred(n).isSound(), true);
            for (int m = 1; m <= n; m++) {
                ChoreAssignment x = new ChoreAssignment();
                x.resize(n, m);
                x.fill(100 * n + m, 99);
                x.setForbidden(n - 1, m - 1, true);
                Check.same("isSound of " + n + " and " + m, x.isSound(), true);
            }
        }
        ChoreAssignment x = Tables.three();
        x.startEnumeration();
        x.nextSum();
        long before = x.checksum();
        x.isSound();
        Check.same("nothing changes", x.checksum(), before);
        Check.same("the enumeration goes on", x.nextSum(), 6);
    }

    public static void main(String[] args) {
        promise40MeanCost();
        promise41ShareOf();
        promise42Checksum();
        promise43IsSound();
        Check.end();
    }
}
