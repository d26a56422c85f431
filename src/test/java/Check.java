/** Counts what was checked, and prints what is not as it is due. */
final class Check {
    private static int passed;
    private static int failed;
    private static String about = "";

    private Check() {
    }

    interface Call {
        Object answer();
    }

    /** The answer of a call, or the name of the exception that it throws. */
    static String answerOf(Call call) {
        try {
            return String.valueOf(call.answer());
        } catch (RuntimeException e) {
            return "throws." + e.getClass().getSimpleName();
        }
    }

    static void same(String what, Object due, Call call) {
        String got = answerOf(call);
        if (got.equals(String.valueOf(due))) {
            passed++;
        } else {
            failed++;
            System.out.println(about + what + ": answered " + got + ", due is " + due);
        }
    }

    /** What is checked from here on is for these words of the document, or for none of them. */
    static void about(String words) {
        about = words.isEmpty() ? "" : words + "\n    ";
    }

    /** How many checks there were. */
    static int count() {
        return passed + failed;
    }

    static void noIndex(String what, Call call) {
        same(what, "throws.IndexOutOfBoundsException", call);
    }

    static void noState(String what, Call call) {
        same(what, "throws.IllegalStateException", call);
    }

    static void noArgument(String what, Call call) {
        same(what, "throws.IllegalArgumentException", call);
    }

    /** Prints the sums; the exit code of the run. */
    static int finish() {
        System.out.println(passed + " passed, " + failed + " failed");
        return failed == 0 && passed > 0 ? 0 : 1;
    }
}
