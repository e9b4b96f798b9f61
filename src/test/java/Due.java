/** Counts and prints the answers that are not as due; every test of the project ends with end(). */
final class Due {
    interface Call {
        int answer();
    }

    static final Class<IndexOutOfBoundsException> INDEX = IndexOutOfBoundsException.class;
    static final Class<IllegalArgumentException> ARGUMENT = IllegalArgumentException.class;
    static final Class<IllegalStateException> STATE = IllegalStateException.class;
    static final Class<UnsupportedOperationException> TOO_MANY = UnsupportedOperationException.class;
    static final int LOW = Integer.MIN_VALUE;
    static final int HIGH = Integer.MAX_VALUE;

    private static int sentences = 0;
    private static int checked = 0;
    private static int wrong = 0;

    private Due() {
    }

    /** A test of its own for one sentence of the document, in the document's words. */
    static void sentence(String where, String words, Runnable test) {
        sentences++;
        int checkedBefore = checked;
        int wrongBefore = wrong;
        try {
            test.run();
        } catch (RuntimeException e) {
            is("a call that should answer", "throws." + e.getClass().getSimpleName(), "an answer");
        }
        if (wrong > wrongBefore || checked == checkedBefore) {
            System.out.println("does not hold, " + where + ": " + words);
            wrong += checked == checkedBefore ? 1 : 0;
        }
    }

    static void is(String what, Object got, Object want) {
        checked++;
        if (!got.equals(want)) {
            wrong++;
            System.out.println(what + " answered " + got + ", due is " + want);
        }
    }

    /** The name of the exception must be the very one: no subclass that the machine throws. */
    static void fails(String what, Class<? extends RuntimeException> want, Call call) {
        is(what, answerOf(call), "throws." + want.getSimpleName());
    }

    static String answerOf(Call call) {
        try {
            return String.valueOf(call.answer());
        } catch (RuntimeException e) {
            return "throws." + e.getClass().getSimpleName();
        }
    }

    static void end() {
        String tested = sentences == 0 ? "" : sentences + " sentences, ";
        System.out.println(tested + checked + " answers looked at, " + wrong + " not as due");
        if (wrong != 0 || checked == 0) {
            System.exit(1);
        }
    }
}
