/** Counts what is as due and what is not, and tells the latter. */
final class Checks {
    interface Call {
        long answer();
    }

    private static int passed = 0;
    private static int failed = 0;

    private Checks() {
    }

    static int passed() {
        return passed;
    }

    static int failed() {
        return failed;
    }

    static void due(String what, long got, long want) {
        note(got == want, what + " answered " + got + ", due is " + want);
    }

    static void dueShare(String what, double got, double want) {
        note(Double.compare(got, want) == 0, what + " answered " + got + ", due is " + want);
    }

    static void dueText(String what, String got, String want) {
        note(got.equals(want), what + " answered " + got + ", due is " + want);
    }

    static void holds(String what, boolean holds) {
        note(holds, what + " does not hold");
    }

    /** The call has to throw exactly this exception, and to change nothing that can be seen. */
    static void refuses(GoldSheets x, Class<? extends RuntimeException> want, String what, Call call) {
        // The digest tells of the whole state in one call, and an object has calls for 512 only.
        long before = x.digest();
        String got = outcome(call);
        note(got.equals(want.getSimpleName()), what + " answered " + got + ", due is " + want.getSimpleName());
        note(x.digest() == before, what + " changed something");
    }

    /** The answer as a text, or the name of the exception that came instead. */
    static String outcome(Call call) {
        try {
            return Long.toString(call.answer());
        } catch (RuntimeException e) {
            return e.getClass().getSimpleName();
        }
    }

    private static void note(boolean isDue, String message) {
        if (isDue) {
            passed++;
        } else {
            failed++;
            System.out.println("  " + message);
        }
    }
}
