import java.util.concurrent.Callable;

/** Counts the answers that are not as due, and prints each of them. */
final class Check {
    private static int asked = 0;
    private static int wrong = 0;
    private static String place = "";

    private Check() {
    }

    /** Names the place in the document that the next answers are about. */
    static void about(String heading) {
        place = heading + ": ";
    }

    static int asked() {
        return asked;
    }

    static void same(String what, Object got, Object due) {
        asked++;
        if (!due.equals(got)) {
            wrong++;
            System.out.println(place + what + " answered " + got + ", due is " + due);
        }
    }

    static void fails(String what, Class<? extends Exception> due, Callable<?> call) {
        same(what, outcome(call), due.getName());
    }

    /** The answer of a call, or the name of the exception that it throws. */
    static Object outcome(Callable<?> call) {
        try {
            return call.call();
        } catch (Exception e) {
            return e.getClass().getName();
        }
    }

    /** Ends the test: with exit code 1 if an answer was wrong, or none was asked. */
    static void end() {
        System.out.println((asked - wrong) + " answers as due, " + wrong + " not");
        if (wrong != 0 || asked == 0) {
            System.exit(1);
        }
    }
}
