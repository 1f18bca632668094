/** Counts the answers that are as due, and prints those that are not. */
final class Check {
    private static int passed = 0;
    private static int failed = 0;

    private Check() {
    }

    /** A call whose answer, or exception, is looked at. */
    interface Call {
        long answer();
    }

    static void same(String what, long due, long got) {
        note(due == got, what + " answered " + got + ", due is " + due);
    }

    static void sameDouble(String what, double due, double got) {
        note(due == got, what + " answered " + got + ", due is " + due);
    }

    static void sameText(String what, String due, String got) {
        note(due.equals(got), what + " is " + got + ", due is " + due);
    }

    /** The call has to throw the exception of this name, and to leave the yard as it was. */
    static void refuses(BendYard yard, String what, String due, Call call) {
        long before = yard.digest();
        int errorBefore = yard.errorAt();
        sameText(what, due, outcome(call));
        note(yard.digest() == before && yard.errorAt() == errorBefore, what + " changed the yard");
    }

    /** The answer as a text, or the plain name of the exception that was thrown. */
    static String outcome(Call call) {
        try {
            return Long.toString(call.answer());
        } catch (RuntimeException e) {
            return e.getClass().getSimpleName();
        }
    }

    static void note(boolean isRight, String complaint) {
        if (isRight) {
            passed++;
        } else {
            failed++;
            if (failed <= 40) {
                System.out.println(complaint);
            }
        }
    }

    static void end(String test) {
        System.out.println(test + ": " + passed + " passed, " + failed + " failed");
        if (failed > 0) {
            System.exit(1);
        }
    }
}
