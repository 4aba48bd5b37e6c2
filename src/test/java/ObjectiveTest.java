/** Promises 31 to 35: other objectives. */
public final class ObjectiveTest {
    private ObjectiveTest() {
    }

    private static void promise31Maximum() {
        ChoreAssignment x = Tables.three();
        Check.same("maximum", x.maximum(), 11);
        x.setForbidden(1, 2, true);
        Check.same("maximum of the allowed", x.maximum(), 7);
        Check.same("maximum with a dummy column", Tables.idle().maximum(), 10);
        Check.same("maximum, none allowed", Tables.barred(3).maximum(), -1);
        Check.same("maximum of zeros", new ChoreAssignment().maximum(), 0);
        ChoreAssignment idle = Tables.idle();
        idle.setForbidden(2, 1, true);
        idle.setForbidden(2, 0, true);
        Check.same("maximum, the last row idle", idle.maximum(), 10);
        x.resize(7, 7);
        for (int row = 0; row < 7; row++) {
            x.setRow(row, 99999999999999L);
        }
        Check.same("greatest maximum", x.maximum(), 693);
    }

    private static void promise32Bottleneck() {
        ChoreAssignment x = Tables.three();
        Check.same("bottleneck", x.bottleneck(), 2);
        x.setForbidden(2, 2, true);
        Check.same("bottleneck beside a forbidden cell", x.bottleneck(), 3);
        Check.same("bottleneck with a dummy column", Tables.idle().bottleneck(), 2);
        Check.same("bottleneck, none allowed", Tables.barred(3).bottleneck(), 1000);
        Check.same("bottleneck of zeros", new ChoreAssignment().bottleneck(), 0);
        ChoreAssignment other = new ChoreAssignment();
        other.resize(2, 2);
        other.setRow(0, 9L);
        other.setRow(1, 609L);
        Check.same("bottleneck and minimum differ", other.bottleneck(), 9);
        other.setRow(0, 6L);
        other.setRow(1, 510L);
        Check.same("bottleneck is not the minimum's", other.bottleneck(), 6);
        Check.same("the minimum's", other.minimum(), 10);
    }

    /** What a larger table leaves behind must not show in a smaller one. */
    private static void promise31To34OfASmallerTable() {
        for (int n = 1; n <= 6; n++) {
            ChoreAssignment x = new ChoreAssignment();
            x.resize(7, 7);
            x.fill(31, 99);
            x.maximum();
            x.bottleneck();
            x.countWithin(200);
            x.resize(n, n);
            Check.same("smaller bottleneck at once of " + n, x.bottleneck(), 0);
            Check.same("smaller countWithin of " + n, x.countWithin(0), x.startEnumeration());
            Check.same("smaller maximum of " + n, x.maximum(), 0);
            Check.same("smaller bottleneck of " + n, x.bottleneck(), 0);
            Check.same("smaller minimum of " + n, x.minimum(), 0);
            Check.same("smaller fits of " + n, x.fits(0), true);
            x.setCost(n - 1, 0, 5);
            Check.same("bottleneck after " + n, x.bottleneck(), n == 1 ? 5 : 0);
        }
    }

    private static void promise33Fits() {
        ChoreAssignment x = Tables.three();
        Check.same("fits 0", x.fits(0), false);
        Check.same("fits 1", x.fits(1), false);
        Check.same("fits 2", x.fits(2), true);
        Check.same("fits 1000", x.fits(1000), true);
        ChoreAssignment barred = Tables.barred(3);
        Check.same("fits 999, none allowed", barred.fits(999), false);
        Check.same("fits 1000, none allowed", barred.fits(1000), true);
        Check.same("fits 0 of zeros", new ChoreAssignment().fits(0), true);
        int[] wrong = {-1, 1001, Integer.MIN_VALUE, Integer.MAX_VALUE};
        for (int limit : wrong) {
            Tables.refused("fits " + limit, x, Tables.ARGUMENT, () -> x.fits(limit));
        }
    }

    private static void promise34CountWithin() {
        ChoreAssignment x = Tables.three();
        int[] due = {0, 0, 0, 0, 0, 1, 3, 4, 4, 5, 5, 6, 6};
        for (int limit = 0; limit < due.length; limit++) {
            Check.same("countWithin " + limit, x.countWithin(limit), due[limit]);
        }
        Check.same("countWithin 7000", x.countWithin(7000), 6);
        Check.same("countWithin at once", Tables.three().countWithin(5), 1);
        Check.same("countWithin of none at once", Tables.three().countWithin(4), 0);
        x.bottleneck();
        Check.same("countWithin after the bottleneck", x.countWithin(6), 3);
        ChoreAssignment barred = Tables.barred(3);
        Check.same("countWithin 999, none allowed", barred.countWithin(999), 0);
        Check.same("countWithin 1999, none allowed", barred.countWithin(1999), 2);
        Check.same("countWithin 2000, none allowed", barred.countWithin(2000), 6);
        x.resize(7, 1);
        Check.same("countWithin 0 of zeros", x.countWithin(0), 5040);
        x.setCost(3, 0, 1);
        Check.same("countWithin 0, seventh part", x.countWithin(0), 4320);
        int[] wrong = {-1, 7001, Integer.MIN_VALUE, Integer.MAX_VALUE};
        for (int limit : wrong) {
            Tables.refused("countWithin " + limit, x, Tables.ARGUMENT,
                () -> x.countWithin(limit));
        }
    }

    private static void promise35SumOf() {
        ChoreAssignment x = Tables.three();
        int[][] due = {{123, 6}, {132, 11}, {213, 5}, {231, 9}, {312, 7}, {321, 6}};
        for (int[] pair : due) {
            Check.same("sumOf " + pair[0], x.sumOf(pair[0]), pair[1]);
        }
        int[] wrong = {0, -1, 12, 1, 23, 1123, 1234, 122, 111, 124, 120, 103, 423, 12300, 900,
            -123, -321, 3210, 1000000123, Integer.MIN_VALUE, Integer.MAX_VALUE};
        for (int code : wrong) {
            Tables.refused("sumOf " + code, x, Tables.ARGUMENT, () -> x.sumOf(code));
        }
        x.setForbidden(1, 0, true);
        Check.same("sumOf with a forbidden cell", x.sumOf(213), 1003);
        Check.same("sumOf with a dummy column", Tables.idle().sumOf(312), 3);
        ChoreAssignment one = new ChoreAssignment();
        one.setCost(0, 0, 8);
        Check.same("sumOf of one", one.sumOf(1), 8);
        Tables.refused("sumOf of one, 11", one, Tables.ARGUMENT, () -> one.sumOf(11));
        x.resize(7, 7);
        Check.same("sumOf of seven", x.sumOf(7654321), 0);
        Tables.refused("sumOf of seven, an 8", x, Tables.ARGUMENT, () -> x.sumOf(8654321));
    }

    public static void main(String[] args) {
        promise31Maximum();
        promise32Bottleneck();
        promise31To34OfASmallerTable();
        promise33Fits();
        promise34CountWithin();
        promise35SumOf();
        Check.end();
    }
}
