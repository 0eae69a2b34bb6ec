/** Compares answers with the ones that are due, and ends the program with exit code 1 if one was not. */
final class Check {
    /** A call that may throw. */
    interface Call {
        Object answer();
    }

    private static int made;
    private static int wrong;

    private Check() {
    }

    static void due(String what, Object want, Call call) {
        made++;
        Object got = answerOf(call);
        if (!String.valueOf(want).equals(String.valueOf(got))) {
            wrong++;
            System.out.println(what + " answered " + got + ", due is " + want);
        }
    }

    /** An answer, or the simple name of the exception that the call throws, by a throw statement. */
    static Object answerOf(Call call) {
        try {
            return call.answer();
        } catch (RuntimeException e) {
            boolean meant = e.getStackTrace()[0].getClassName().startsWith("LandBook");
            return e.getClass().getSimpleName() + (meant ? "" : " by itself");
        }
    }

    static void that(String what, boolean holds) {
        due(what, true, () -> holds);
    }

    static boolean allRight() {
        return wrong == 0;
    }

    static void end() {
        System.out.println(made + " answers, " + wrong + " of them wrong");
        if (wrong != 0 || made == 0) {
            System.exit(1);
        }
    }
}
