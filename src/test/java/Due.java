/** Counts the answers that are not as due, prints them, and ends a test with 1 if there was one. */
final class Due {
    /** A call of the class under test that may throw. */
    interface Call {
        Object answer();
    }

    private static int wrong = 0;
    private static String words = "";

    private Due() {
    }

    /** The document's words that the answers from here on are held against. */
    static void by(String section, String sentence) {
        words = section + " (" + sentence + "): ";
    }

    static void is(String call, Object got, Object want) {
        if (!got.equals(want)) {
            wrong++;
            System.out.println(words + call + " answered " + got + ", due is " + want);
        }
    }

    /** The exception's exact class is due, not one below it: the machine throws those below. */
    static void fails(String call, Class<? extends RuntimeException> want, Call made) {
        is(call, answerOf(made), want);
    }

    /** What a call answered, or the class of what it threw. */
    static Object answerOf(Call made) {
        try {
            return made.answer();
        } catch (RuntimeException thrown) {
            return thrown.getClass();
        }
    }

    static void finish() {
        if (wrong != 0) {
            System.out.println(wrong + " answers are not as due");
            System.exit(1);
        }
    }
}
