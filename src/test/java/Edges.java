import java.util.function.Function;
import java.util.function.Supplier;

/** What the tests of the document's edges share: wrong arguments, and refused calls that must leave all as it was. */
final class Edges {
    static final Class<IndexOutOfBoundsException> INDEX = IndexOutOfBoundsException.class;
    static final Class<IllegalArgumentException> ARGUMENT = IllegalArgumentException.class;
    static final Class<IllegalStateException> STATE = IllegalStateException.class;
    static final Class<UnsupportedOperationException> UNSUPPORTED = UnsupportedOperationException.class;
    static final int LEAST = Integer.MIN_VALUE;
    static final int GREATEST = Integer.MAX_VALUE;

    private Edges() {
    }

    /** Just too small, just too large, and as far off as can be, where 0 .. bound - 1 are right. */
    static int[] outside(int bound) {
        return new int[] {-1, bound, LEAST, GREATEST};
    }

    /** The least and the greatest right one. */
    static int[] inside(int bound) {
        return new int[] {0, bound - 1};
    }

    /**
     * An object with something to lose: a source of two blocks, a target of one, a check that refused the
     * pair of blocks 0 for its effects, and a run that returned 9 and left 9 in word 3.
     */
    static PassChecker busy() {
        PassChecker x = new PassChecker();
        Programs.addBlock(x, 0, Programs.code(Programs.ADD, 2, 0, 1), Programs.code(Programs.STORE, 0, 0, 1));
        Programs.addBlock(x, 0, Programs.code(Programs.CONSTANT, 4, 0, 77));
        Programs.addBlock(x, 1, Programs.code(Programs.LESS, 5, 4, 3));
        x.end(0, 0, Programs.IF, 2, 5, 1);
        x.end(1, 0, Programs.RETURN, 1, 0, 0);
        x.end(0, 1, Programs.RETURN, 1, 0, 0);
        Due.answerOf(x::check);
        x.run(0, 3, 9, 500);
        return x;
    }

    /** On a busy object: the call throws this, and nothing that can be read is another one behind it. */
    static void refuses(String call, Class<? extends RuntimeException> want, Function<PassChecker, Object> made) {
        refuses(call, want, Edges::busy, made);
    }

    static void refuses(String call, Class<? extends RuntimeException> want, Supplier<PassChecker> on,
            Function<PassChecker, Object> made) {
        PassChecker x = on.get();
        String before = stateOf(x);
        Due.fails(call, want, () -> made.apply(x));
        Due.is("all that can be read behind " + call, stateOf(x), before);
    }

    /** All that can be read of an object. */
    static String stateOf(PassChecker x) {
        StringBuilder text = new StringBuilder();
        for (int program = 0; program < 2; program++) {
            text.append("program ").append(program).append(": ").append(programOf(x, program));
        }
        text.append("refused");
        for (int what = 0; what < 3; what++) {
            text.append(' ').append(x.refused(what));
        }
        text.append(" returned ").append(x.returned()).append(" steps ").append(x.steps()).append(" words");
        for (int at = 0; at < 8; at++) {
            text.append(' ').append(x.word(at));
        }
        return text.toString();
    }

    /** All blocks of a program as text; "" if it has none. */
    static String programOf(PassChecker x, int program) {
        StringBuilder text = new StringBuilder();
        int blocks = blocksOf(x, program);
        for (int block = 0; block < blocks; block++) {
            text.append('[').append(Programs.codesOf(x, program, block));
            text.append(" | ").append(Programs.endOf(x, program, block)).append("] ");
        }
        return text.toString();
    }

    static int blocksOf(PassChecker x, int program) {
        for (int block = 0; block < 7; block++) {
            int asked = block;
            if (INDEX.equals(Due.answerOf(() -> x.ending(program, asked, 4)))) {
                return block;
            }
        }
        return 7;
    }

    /** For calls that answer nothing. */
    static Function<PassChecker, Object> end(int program, int block, int kind, int a, int x, int y) {
        return on -> {
            on.end(program, block, kind, a, x, y);
            return "nothing";
        };
    }

    static Function<PassChecker, Object> wipe(int program) {
        return on -> {
            on.wipe(program);
            return "nothing";
        };
    }
}
