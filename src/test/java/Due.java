/** Counts and prints the answers that are not as due; every test of the project ends with end(). */
final class Due {
    interface Call {
        int answer();
    }

    private static int checked = 0;
    private static int wrong = 0;

    private Due() {
    }

    static void is(String what, Object got, Object want) {
        checked++;
        if (!got.equals(want)) {
            wrong++;
            System.out.println(what + " answered " + got + ", due is " + want);
        }
    }

    /** The name of the exception must be the very one: no subclass that the machine throws. */
    static void fails(String what, Class<? extends RuntimeException> want, Call call) {
        is(what, answerOf(call), "throws." + want.getSimpleName());
    }

    static String answerOf(Call call) {
        try {
            return String.valueOf(call.answer());
        } catch (RuntimeException e) {
            return "throws." + e.getClass().getSimpleName();
        }
    }

    static void end() {
        System.out.println(checked + " answers looked at, " + wrong + " not as due");
        if (wrong != 0 || checked == 0) {
            System.exit(1);
        }
    }
}
