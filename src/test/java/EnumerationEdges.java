import java.util.NoSuchElementException;

/** The edges that the promises 36 to 39 name. */
final class EnumerationEdges {
    private static final Class<NoSuchElementException> ENDED = NoSuchElementException.class;
    private static final int[] FACTORIALS = {1, 1, 2, 6, 24, 120, 720};

    private EnumerationEdges() {
    }

    static void all() {
        startsBeforeTheFirst();
        startAbandons();
        startRefuses();
        nextMoves();
        nextRefusesInactive();
        nextRefusesEnded();
        currentColumnAnswers();
        currentColumnRefusesRows();
        currentColumnRefusesStates();
        stepsCount();
        stepsNone();
    }

    /** The costs 4 7 0 / 1 1000 0 / 2 2 0 after some steps; their sums are 3 6 8 9 1002 1004. */
    private static ChoreAssignment stepped(int steps) {
        ChoreAssignment x = Tables.of("4 7 / 1 x6 / 2 2");
        x.startEnumeration();
        for (int step = 0; step < steps; step++) {
            x.nextSum();
        }
        return x;
    }

    /** The last one visited, and the one past the end was asked for too. */
    private static ChoreAssignment ended() {
        ChoreAssignment x = stepped(6);
        Check.fails("nextSum past the end", ENDED, x::nextSum);
        return x;
    }

    private static void startsBeforeTheFirst() {
        Document.says(36, "Starts the enumeration, before its first step.",
            "Returns the number of assignments, n!");
        for (int n = 1; n <= 6; n++) {
            for (int m = 1; m <= n; m++) {
                ChoreAssignment x = Tables.level(n, m, 1);
                Check.same("startEnumeration of " + n, x.startEnumeration(), FACTORIALS[n]);
                Check.same("stepsMade", x.stepsMade(), 0);
                Check.fails("currentColumn", Tables.STATE, () -> x.currentColumn(0));
            }
        }
        Check.same("where none is allowed", Tables.shut(6, 6).startEnumeration(), 720);
        Check.same("the first step", stepped(0).nextSum(), 3);
    }

    private static void startAbandons() {
        Document.says(36, "An active enumeration is abandoned.");
        for (int steps = 0; steps <= 6; steps++) {
            ChoreAssignment x = stepped(steps);
            Check.same("start after " + steps, x.startEnumeration(), 6);
            Check.same("all that is held", Whole.of(x), Whole.of(stepped(0)));
        }
        ChoreAssignment x = ended();
        Check.same("start after the end", x.startEnumeration(), 6);
        Check.same("stepsMade", x.stepsMade(), 0);
        Check.fails("currentColumn", Tables.STATE, () -> x.currentColumn(0));
        Check.same("the first one again", x.nextSum(), 3);
    }

    private static void startRefuses() {
        Document.says(36, "Throws `IllegalStateException` if n is greater than 6");
        for (int m = 1; m <= 7; m++) {
            int real = m;
            Whole.refused("startEnumeration of 7 and " + m, () -> Tables.level(7, real, 1),
                Tables.STATE, ChoreAssignment::startEnumeration);
        }
        ChoreAssignment x = stepped(1);
        x.resize(7, 7);
        Check.fails("startEnumeration of 7", Tables.STATE, x::startEnumeration);
        Check.same("stepsMade", x.stepsMade(), -1);
        Check.fails("nextSum", Tables.STATE, x::nextSum);
        x.resize(6, 6);
        Check.same("startEnumeration of 6", x.startEnumeration(), 720);
    }

    private static void nextMoves() {
        Document.says(37, "Moves the enumeration to its next assignment.",
            "Returns the sum of that assignment.");
        int[][] due = {{3, 312}, {6, 132}, {8, 213}, {9, 231}, {1002, 321}, {1004, 123}};
        ChoreAssignment x = stepped(0);
        for (int[] pair : due) {
            Check.same("nextSum", x.nextSum(), pair[0]);
            Check.same("visited", Whole.visited(x), "" + pair[1]);
        }
        ChoreAssignment shut = Tables.shut(6, 6);
        shut.startEnumeration();
        Check.same("the greatest sum", shut.nextSum(), 6000);
        Check.same("the first one of equals", Whole.visited(shut), "123456");
        ChoreAssignment equal = new ChoreAssignment();
        equal.resize(6, 6);
        equal.startEnumeration();
        for (int visit = 1; visit <= 500; visit++) {
            equal.nextSum();
        }
        Check.same("the 500th one of equals", Whole.visited(equal), "516243");
        ChoreAssignment one = Tables.of("x9");
        one.startEnumeration();
        Check.same("the only one", one.nextSum(), 1000);
    }

    private static void nextRefusesInactive() {
        Document.says(37, "Throws `IllegalStateException` if no enumeration is active");
        Whole.refused("of a new object", ChoreAssignment::new, Tables.STATE,
            ChoreAssignment::nextSum);
        Whole.refused("before any start", () -> Tables.level(7, 7, 1), Tables.STATE,
            ChoreAssignment::nextSum);
        for (int steps = 0; steps <= 6; steps++) {
            int made = steps;
            Whole.refused("cancelled after " + steps, () -> cancelled(made), Tables.STATE,
                ChoreAssignment::nextSum);
        }
        ChoreAssignment x = ended();
        x.setCost(0, 0, 4);
        Check.fails("cancelled after the end", Tables.STATE, x::nextSum);
    }

    private static ChoreAssignment cancelled(int steps) {
        ChoreAssignment x = stepped(steps);
        x.setCost(0, 0, 4);
        return x;
    }

    private static void nextRefusesEnded() {
        Document.says(37, "Throws `NoSuchElementException` if all assignments have been visited");
        Whole.refused("after the last", () -> stepped(6), ENDED, ChoreAssignment::nextSum);
        Whole.refused("after the last again", EnumerationEdges::ended, ENDED,
            ChoreAssignment::nextSum);
        Check.same("the last one is answered", stepped(5).nextSum(), 1004);
        for (int n = 1; n <= 5; n++) {
            ChoreAssignment x = Tables.level(n, n, 99);
            x.startEnumeration();
            for (int visit = 0; visit < FACTORIALS[n]; visit++) {
                Check.same("visit " + visit + " of " + n, x.nextSum(), 99 * n);
            }
            Check.fails("after the last of " + n, ENDED, x::nextSum);
            Check.same("stepsMade", x.stepsMade(), FACTORIALS[n]);
        }
    }

    private static void currentColumnAnswers() {
        Document.says(38, "Returns the column that the assignment visited last gives a row.",
            "Returns the column.");
        Check.same("after the first step", Whole.visited(stepped(1)), "312");
        Check.same("after the last step", Whole.visited(stepped(6)), "123");
        Check.same("past the end", Whole.visited(ended()), "123");
        ChoreAssignment six = Tables.level(6, 1, 0);
        six.startEnumeration();
        six.nextSum();
        Check.same("six rows", Whole.visited(six), "123456");
    }

    private static void currentColumnRefusesRows() {
        Document.says(38, "- `row`: 0 to n - 1");
        for (int n = 1; n <= 6; n++) {
            ChoreAssignment x = Tables.level(n, n, 1);
            x.startEnumeration();
            x.nextSum();
            for (int row = 0; row < n; row++) {
                Check.same("row " + row + " of " + n, x.currentColumn(row), row);
            }
            for (int row : new int[] {-1, n, n + 1, Integer.MIN_VALUE, Integer.MAX_VALUE}) {
                Check.fails("row " + row + " of " + n, Tables.INDEX, () -> x.currentColumn(row));
            }
        }
        Document.says(38, "Throws `IndexOutOfBoundsException` if there is no such row");
        for (int row : new int[] {-1, 3, 7, Integer.MIN_VALUE, Integer.MAX_VALUE}) {
            Whole.refused("row " + row + " midway", Tables::midway, Tables.INDEX,
                x -> x.currentColumn(row));
            Whole.refused("row " + row + " before the first", () -> stepped(0), Tables.INDEX,
                x -> x.currentColumn(row));
            Whole.refused("row " + row + " after the last", () -> stepped(6), Tables.INDEX,
                x -> x.currentColumn(row));
            Whole.refused("row " + row + ", none active", Tables::three, Tables.INDEX,
                x -> x.currentColumn(row));
            Whole.refused("row " + row + ", cancelled", () -> cancelled(2), Tables.INDEX,
                x -> x.currentColumn(row));
        }
        Whole.refused("row 7 of seven", () -> Tables.level(7, 7, 0), Tables.INDEX,
            x -> x.currentColumn(7));
    }

    private static void currentColumnRefusesStates() {
        Document.says(38, "Throws `IllegalStateException` if no enumeration is active, or it has "
            + "made no step");
        for (int row = 0; row < 3; row++) {
            int asked = row;
            Whole.refused("none active", Tables::three, Tables.STATE, x -> x.currentColumn(asked));
            Whole.refused("no step", () -> stepped(0), Tables.STATE, x -> x.currentColumn(asked));
            Whole.refused("cancelled", () -> cancelled(2), Tables.STATE,
                x -> x.currentColumn(asked));
            Whole.refused("cancelled at the end", () -> cancelled(6), Tables.STATE,
                x -> x.currentColumn(asked));
            Whole.refused("started anew", () -> restarted(), Tables.STATE,
                x -> x.currentColumn(asked));
        }
        Whole.refused("row 6 of seven", () -> Tables.level(7, 7, 0), Tables.STATE,
            x -> x.currentColumn(6));
    }

    private static ChoreAssignment restarted() {
        ChoreAssignment x = stepped(2);
        x.startEnumeration();
        return x;
    }

    private static void stepsCount() {
        Document.says(39, "Counts the steps of the enumeration.",
            "Returns the number of assignments visited;");
        for (int steps = 0; steps <= 6; steps++) {
            Check.same("after " + steps, stepped(steps).stepsMade(), steps);
        }
        Check.same("past the end", ended().stepsMade(), 6);
        Check.same("started anew", restarted().stepsMade(), 0);
    }

    private static void stepsNone() {
        Document.says(39, "NONE if no enumeration is active.");
        Check.same("of a new object", new ChoreAssignment().stepsMade(), -1);
        Check.same("before any start", Tables.three().stepsMade(), -1);
        for (int steps = 0; steps <= 6; steps++) {
            Check.same("cancelled after " + steps, cancelled(steps).stepsMade(), -1);
        }
        Check.same("of seven rows", Tables.level(7, 7, 0).stepsMade(), -1);
        ChoreAssignment x = cancelled(4);
        x.startEnumeration();
        Check.same("the next one starts at 0", x.stepsMade(), 0);
    }
}
