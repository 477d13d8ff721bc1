import java.util.function.IntSupplier;

/** Compares answers with those that are due, and ends a test with exit code 1 if one was not. */
final class Check {
    private static int wrong = 0;
    private static int looked = 0;
    private static String sentence = "";

    private Check() {
    }

    /** Says which of the document's sentences is tested from here on, so that a wrong answer tells it. */
    static void sentence(String words) {
        sentence = "[" + words + "] ";
    }

    static void same(String what, long got, long due) {
        same(what, String.valueOf(got), String.valueOf(due));
    }

    static void same(String what, String got, String due) {
        looked++;
        if (!got.equals(due)) {
            wrong++;
            System.out.println(sentence + what + " answered " + got + ", due is " + due);
        }
    }

    static void isTrue(String what, boolean got) {
        same(what, got ? "true" : "false", "true");
    }

    static void isFalse(String what, boolean got) {
        same(what, got ? "true" : "false", "false");
    }

    static void throwsArgument(String what, IntSupplier call) {
        same(what, outcome(call), "IllegalArgumentException");
    }

    static void throwsState(String what, IntSupplier call) {
        same(what, outcome(call), "IllegalStateException");
    }

    static void throwsIndex(String what, IntSupplier call) {
        same(what, outcome(call), "IndexOutOfBoundsException");
    }

    /** The answer of a call, or the name of exactly the exception that it threw. */
    static String outcome(IntSupplier call) {
        try {
            return String.valueOf(call.getAsInt());
        } catch (RuntimeException e) {
            return e.getClass().getSimpleName();
        }
    }

    static int wrong() {
        return wrong;
    }

    static void end() {
        System.out.println(looked + " answers looked at, " + wrong + " not as due");
        if (wrong != 0) {
            System.exit(1);
        }
    }
}
