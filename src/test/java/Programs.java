/** Short ways to write and read programs in the tests. */
final class Programs {
    static final int SOURCE = 0;
    static final int TARGET = 1;

    static final int CONSTANT = 0;
    static final int MOVE = 1;
    static final int ADD = 2;
    static final int SUBTRACT = 3;
    static final int MULTIPLY = 4;
    static final int AND = 5;
    static final int LESS = 6;
    static final int DIVIDE = 7;
    static final int LOAD = 8;
    static final int STORE = 9;

    static final int GO = 0;
    static final int IF = 1;
    static final int RETURN = 2;

    private Programs() {
    }

    /** A block more, with these instructions of operation, D, A, B. */
    static int addBlock(PassChecker x, int program, int[]... codes) {
        int block = x.block(program);
        for (int[] code : codes) {
            x.code(program, block, code[0], code[1], code[2], code[3]);
        }
        return block;
    }

    static int[] code(int operation, int d, int a, int b) {
        return new int[] {operation, d, a, b};
    }

    /** An object whose source is one block, and whose target has none. */
    static PassChecker withSource(int[]... codes) {
        PassChecker x = new PassChecker();
        addBlock(x, SOURCE, codes);
        return x;
    }

    /** The instructions of a block as text, such as "2 0 1 5, 1 2 0 0". */
    static String codesOf(PassChecker x, int program, int block) {
        StringBuilder text = new StringBuilder();
        int length = x.ending(program, block, 4);
        for (int i = 0; i < length; i++) {
            text.append(i == 0 ? "" : ", ");
            for (int what = 0; what < 4; what++) {
                text.append(what == 0 ? "" : " ").append(x.instruction(program, block, i, what));
            }
        }
        return text.toString();
    }

    static String endOf(PassChecker x, int program, int block) {
        StringBuilder text = new StringBuilder();
        for (int what = 0; what < 4; what++) {
            text.append(what == 0 ? "" : " ").append(x.ending(program, block, what));
        }
        return text.toString();
    }
}
