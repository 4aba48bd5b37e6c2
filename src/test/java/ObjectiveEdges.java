/** The edges that the promises 31 to 35 name. */
final class ObjectiveEdges {
    private ObjectiveEdges() {
    }

    static void all() {
        maximumAnswers();
        maximumNone();
        bottleneckAnswers();
        fitsAnswers();
        fitsRefuses();
        countWithinAnswers();
        countWithinRefuses();
        sumOfAnswers();
        sumOfRefuses();
    }

    private static void maximumAnswers() {
        Document.says(31, "Returns the maximum.",
            "Returns the greatest sum of all allowed assignments;");
        Check.same("of one", Tables.of("42").maximum(), 42);
        Check.same("of zeros", Tables.level(7, 7, 0).maximum(), 0);
        Check.same("greatest", Tables.level(7, 7, 99).maximum(), 693);
        Check.same("one idle", Tables.level(7, 6, 99).maximum(), 594);
        Check.same("six idle", Tables.of("1 / 2 / 9 / 3 / 4 / 5 / 6").maximum(), 9);
        Check.same("the only allowed one", Tables.of("0 x99 / 99 0").maximum(), 0);
        Check.same("that one is the last", Tables.of("x99 3 / 4 99").maximum(), 7);
        Check.same("idle beside the forbidden", Tables.of("x99 / 0").maximum(), 0);
    }

    private static void maximumNone() {
        Document.says(31, "NONE if there is none.");
        Check.same("one forbidden", Tables.of("x42").maximum(), -1);
        Check.same("all forbidden", Tables.shut(7, 7).maximum(), -1);
        Check.same("all real ones forbidden", Tables.shut(7, 1).maximum(), -1);
        Check.same("a row forbidden", Tables.of("x0 x0 / 99 99").maximum(), -1);
        Check.same("a column forbidden", Tables.of("99 x0 / 99 x0").maximum(), -1);
        Check.same("a row forbidden, but idle", Tables.of("x0 x0 / 9 8 / 7 5").maximum(), 15);
        Check.same("the first column forbidden", Tables.of("x0 0 / x0 0").maximum(), -1);
        Check.same("three rows for two columns",
            Tables.of("x0 x0 99 / x0 x0 99 / 99 99 99").maximum(), -1);
    }

    private static void bottleneckAnswers() {
        Document.says(32, "Returns the bottleneck: the smallest possible value of the greatest "
            + "cost in an assignment.");
        Check.same("of one", Tables.of("42").bottleneck(), 42);
        Check.same("of zeros", Tables.level(7, 7, 0).bottleneck(), 0);
        Check.same("greatest of allowed ones", Tables.level(7, 7, 99).bottleneck(), 99);
        Check.same("of the cheapest", Tables.of("6 0 / 5 6").bottleneck(), 5);
        Check.same("of a dearer sum", Tables.of("0 6 / 5 7").bottleneck(), 6);
        Check.same("idle beside the dear", Tables.of("99 / 7").bottleneck(), 7);
        Check.same("in the last row", Tables.of("0 0 0 / 0 0 0 / 8 9 7").bottleneck(), 7);
        Document.says(32, "Returns that cost (1000 if there is no allowed assignment).");
        Check.same("one forbidden", Tables.of("x42").bottleneck(), 1000);
        Check.same("all forbidden", Tables.shut(7, 7).bottleneck(), 1000);
        Check.same("all real ones forbidden", Tables.shut(7, 1).bottleneck(), 1000);
        Check.same("a column forbidden", Tables.of("0 x0 / 0 x0").bottleneck(), 1000);
        Check.same("a row forbidden, but idle", Tables.of("x0 x0 / 9 8 / 7 5").bottleneck(), 8);
        Check.same("99 is allowed", Tables.of("99 x0 / x0 99").bottleneck(), 99);
    }

    private static void fitsAnswers() {
        Document.says(33, "Tells whether there is an assignment in which no cell costs more than a "
            + "limit.", "- `limit`: 0 to 1000", "Returns whether there is one.");
        for (int limit = 0; limit <= 1000; limit++) {
            Check.same("42 fits " + limit, Tables.of("42").fits(limit), limit >= 42);
            Check.same("a forbidden one fits " + limit, Tables.of("x42").fits(limit),
                limit >= 1000);
            Check.same("zeros fit " + limit, Tables.of("0 0 / 0 0").fits(limit), true);
            Check.same("2 rows fit " + limit, Tables.of("0 6 / 5 7").fits(limit), limit >= 6);
        }
        Check.same("99 of seven fits 98", Tables.level(7, 7, 99).fits(98), false);
        Check.same("99 of seven fits 99", Tables.level(7, 7, 99).fits(99), true);
        Check.same("all shut fits 999", Tables.shut(7, 7).fits(999), false);
        Check.same("all shut fits 1000", Tables.shut(7, 7).fits(1000), true);
        Check.same("idle ones fit 0", Tables.of("99 / 0").fits(0), true);
    }

    private static void fitsRefuses() {
        Document.says(33, "Throws `IllegalArgumentException` if limit is out of range");
        int[] wrong = {-1, 1001, 7000, -1000, Integer.MIN_VALUE, Integer.MAX_VALUE};
        for (int limit : wrong) {
            Whole.refused("fits " + limit, Tables::midway, Tables.ARGUMENT, x -> x.fits(limit));
            Whole.refused("all shut fits " + limit, () -> Tables.shut(2, 2), Tables.ARGUMENT,
                x -> x.fits(limit));
        }
    }

    private static void countWithinAnswers() {
        Document.says(34, "Counts the assignments whose sum is at most a limit.",
            "- `limit`: 0 to 7000", "Returns the number of such assignments.");
        for (int limit = 0; limit <= 7000; limit += limit < 20 ? 1 : 49) {
            Check.same("of one " + limit, Tables.of("12").countWithin(limit), limit >= 12 ? 1 : 0);
        }
        int[] all = {1, 2, 6, 24, 120, 720, 5040};
        for (int n = 1; n <= 7; n++) {
            int most = 1000 * n;
            Check.same("all shut, below", Tables.shut(n, n).countWithin(most - 1), 0);
            Check.same("all shut, at it", Tables.shut(n, n).countWithin(most), all[n - 1]);
            Check.same("all shut, 7000", Tables.shut(n, n).countWithin(7000), all[n - 1]);
            Check.same("zeros, 0", Tables.level(n, n, 0).countWithin(0), all[n - 1]);
            Check.same("idle ones, below", Tables.level(n, 1, 5).countWithin(4), 0);
            Check.same("idle ones, at it", Tables.level(n, 1, 5).countWithin(5), all[n - 1]);
        }
        ChoreAssignment x = Tables.of("1 x2 / 4 8");
        int[][] due = {{0, 0}, {8, 0}, {9, 1}, {1003, 1}, {1004, 2}, {7000, 2}};
        for (int[] pair : due) {
            Check.same("of 2 " + pair[0], x.countWithin(pair[0]), pair[1]);
        }
        Check.same("midway 5", Tables.midway().countWithin(5), 1);
        Check.same("midway 6", Tables.midway().countWithin(6), 2);
        Check.same("midway 1003", Tables.midway().countWithin(1003), 5);
        Check.same("midway 1004", Tables.midway().countWithin(1004), 6);
    }

    private static void countWithinRefuses() {
        Document.says(34, "Throws `IllegalArgumentException` if limit is out of range");
        int[] wrong = {-1, 7001, -7000, 10000, Integer.MIN_VALUE, Integer.MAX_VALUE};
        for (int limit : wrong) {
            Whole.refused("countWithin " + limit, Tables::midway, Tables.ARGUMENT,
                x -> x.countWithin(limit));
            Whole.refused("all shut within " + limit, () -> Tables.shut(7, 7), Tables.ARGUMENT,
                x -> x.countWithin(limit));
        }
    }

    private static void sumOfAnswers() {
        Document.says(35, "Returns the sum of an assignment.", "- `code`: n decimal digits: the "
            + "first one is the column of row 0 plus 1, the next one that of row 1 plus 1, and so "
            + "on", "Returns the sum of the assignment.");
        Check.same("of one", Tables.of("42").sumOf(1), 42);
        Check.same("of one forbidden", Tables.of("x42").sumOf(1), 1000);
        Check.same("of 2, 12", Tables.of("1 x2 / 4 8").sumOf(12), 9);
        Check.same("of 2, 21", Tables.of("1 x2 / 4 8").sumOf(21), 1004);
        int[][] due = {{123, 1004}, {132, 6}, {213, 8}, {231, 9}, {312, 3}, {321, 1002}};
        for (int[] pair : due) {
            Check.same("midway " + pair[0], Tables.midway().sumOf(pair[0]), pair[1]);
        }
        ChoreAssignment seven = new ChoreAssignment();
        seven.resize(7, 7);
        for (int row = 0; row < 7; row++) {
            seven.setRow(row, 10000000000000L * row + 1000000000000L);
            seven.setCost(row, 6, 10 + row);
        }
        // Row i has 10 i + 1 in column 0, 10 + i in column 6, and 0 elsewhere.
        Check.same("the first code of seven", seven.sumOf(1234567), 1 + 16);
        Check.same("the last code of seven", seven.sumOf(7654321), 10 + 61);
        Check.same("one in between", seven.sumOf(2345671), 15 + 61);
        Check.same("the greatest sum", Tables.shut(7, 7).sumOf(1234567), 7000);
        Check.same("the greatest code's sum", Tables.shut(7, 7).sumOf(7654321), 7000);
    }

    private static void sumOfRefuses() {
        Document.says(35, "Throws `IllegalArgumentException` if code is not the code of an "
            + "assignment");
        refused("of one", "42", 0, 2, -1, 11, 10, 9, 12, 101, 1000000001);
        refused("of 2", "1 x2 / 4 8", 0, 1, 2, 11, 22, 10, 20, 13, 31, 23, 32, 33, -12, -21, 112,
            121, 212, 312, 120, 210, 102, 1000000012);
        int[] wrong = {0, 1, 12, 23, 111, 112, 113, 121, 122, 133, 222, 333, 124, 134, 143, 234,
            423, 120, 102, 103, 230, 230, 12300, 1230, 1123, 4123, 1234, 3123, 1000123, -123,
            -321, -132, 129, 923, 193, Integer.MIN_VALUE, Integer.MAX_VALUE};
        refused("midway", "4 7 / 1 x6 / 2 2", wrong);
        for (int code : wrong) {
            Whole.refused("sumOf " + code + " midway", Tables::midway, Tables.ARGUMENT,
                x -> x.sumOf(code));
        }
        int[] wrongOfSeven = {0, 1234568, 8234567, 1234560, 234567, 123456, 11234567, 12345671,
            12345678, 1234566, 1134567, 7777777, 7654320, 7654322, 9876543, 1111111, 1000000000,
            2147483647, -2147483648, -1234567, -7654321, 1023456};
        for (int code : wrongOfSeven) {
            Whole.refused("sumOf " + code + " of seven", () -> Tables.level(7, 6, 5),
                Tables.ARGUMENT, x -> x.sumOf(code));
        }
    }

    private static void refused(String what, String cells, int... codes) {
        for (int code : codes) {
            Whole.refused("sumOf " + code + " " + what, () -> Tables.of(cells), Tables.ARGUMENT,
                x -> x.sumOf(code));
        }
    }
}
