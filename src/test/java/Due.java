/** Counts the answers that are not as due, prints them, and ends a test with 1 if there was one. */
final class Due {
    /** A call of the class under test that may throw. */
    interface Call {
        Object answer();
    }

    private static int wrong = 0;

    private Due() {
    }

    static void is(String call, Object got, Object want) {
        if (!got.equals(want)) {
            wrong++;
            System.out.println(call + " answered " + got + ", due is " + want);
        }
    }

    /** The exception's exact class is due, not one below it: the machine throws those below. */
    static void fails(String call, Class<? extends RuntimeException> want, Call made) {
        Object got;
        try {
            got = made.answer();
        } catch (RuntimeException thrown) {
            got = thrown.getClass();
        }
        is(call, got, want);
    }

    static void finish() {
        if (wrong != 0) {
            System.out.println(wrong + " answers are not as due");
            System.exit(1);
        }
    }
}
