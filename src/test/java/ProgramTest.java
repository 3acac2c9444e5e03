import java.util.Arrays;

/** Promises 1 to 5, 8 and 9: a new object, block, code, end, wipe, instruction and ending. */
public final class ProgramTest {
    private static final Class<IndexOutOfBoundsException> INDEX = IndexOutOfBoundsException.class;
    private static final Class<IllegalArgumentException> ARGUMENT = IllegalArgumentException.class;
    private static final Class<IllegalStateException> STATE = IllegalStateException.class;

    public static void main(String[] args) {
        aNewObjectIsEmpty();
        blocksAreNumbered();
        codesAreNumbered();
        codeClearsWhatItDoesNotUse();
        codeRefusesWrongOperationsAndRegisters();
        codeRefusesInItsOrder();
        endSetsTheEnd();
        endRefusesWrongFields();
        wipeTakesAllBlocks();
        instructionReadsFields();
        endingReadsFields();
        Due.finish();
    }

    private static void aNewObjectIsEmpty() {
        PassChecker x = new PassChecker();
        for (int program = 0; program < 2; program++) {
            int of = program;
            Due.fails("ending(" + of + ", 0, 0) of a new object", INDEX, () -> x.ending(of, 0, 0));
            Due.fails("effects(" + of + ", 0) of a new object", INDEX, () -> x.effects(of, 0));
        }
        Due.is("refused(0) without check", x.refused(0), -1);
        Due.is("refused(1) without check", x.refused(1), -1);
        Due.is("refused(2) without check", x.refused(2), -1);
        Due.is("returned() without run", x.returned(), 0);
        Due.is("steps() without run", x.steps(), 0);
        for (int at = 0; at < 8; at++) {
            Due.is("word(" + at + ") without run", x.word(at), 0);
        }
        Due.is("check() of nothing", x.check(), 1);
    }

    private static void blocksAreNumbered() {
        PassChecker x = new PassChecker();
        for (int block = 0; block < 6; block++) {
            Due.is("block(0)", x.block(0), block);
            Due.is("a new block's end", Programs.endOf(x, 0, block), "2 0 0 0");
            Due.is("a new block's length", x.ending(0, block, 4), 0);
        }
        Due.fails("block(0), the seventh", STATE, () -> x.block(0));
        Due.fails("ending of block 6", INDEX, () -> x.ending(0, 6, 0));
        Due.is("block(1)", x.block(1), 0);
        for (int program : new int[] {-1, 2, Integer.MIN_VALUE, Integer.MAX_VALUE}) {
            Due.fails("block(" + program + ")", INDEX, () -> x.block(program));
        }
    }

    private static void codesAreNumbered() {
        PassChecker x = new PassChecker();
        x.block(0);
        x.block(0);
        for (int i = 0; i < 8; i++) {
            Due.is("code in block 1", x.code(0, 1, Programs.ADD, 5, 4, 3), i);
        }
        Due.fails("the ninth code", STATE, () -> x.code(0, 1, Programs.ADD, 5, 4, 3));
        Due.is("length", x.ending(0, 1, 4), 8);
        Due.is("code in block 0", x.code(0, 0, Programs.MOVE, 0, 5, 0), 0);
    }

    private static void codeClearsWhatItDoesNotUse() {
        PassChecker x = new PassChecker();
        x.block(1);
        x.code(1, 0, Programs.CONSTANT, 3, 99, -7);
        x.code(1, 0, Programs.MOVE, 3, 4, 99);
        x.code(1, 0, Programs.DIVIDE, 3, 4, 5);
        x.code(1, 0, Programs.LOAD, 3, 4, -1);
        x.code(1, 0, Programs.STORE, 99, 4, 5);
        x.code(1, 0, Programs.CONSTANT, 0, -1, Integer.MIN_VALUE);
        Due.is("codes", Programs.codesOf(x, 1, 0),
                "0 3 0 -7, 1 3 4 0, 7 3 4 5, 8 3 4 0, 9 0 4 5, 0 0 0 -2147483648");
    }

    private static void codeRefusesWrongOperationsAndRegisters() {
        PassChecker x = new PassChecker();
        x.block(0);
        for (int operation : new int[] {-1, 10, Integer.MAX_VALUE, Integer.MIN_VALUE}) {
            Due.fails("operation " + operation, ARGUMENT, () -> x.code(0, 0, operation, 0, 0, 0));
        }
        for (int bad : new int[] {-1, 6}) {
            for (int operation = 0; operation < 10; operation++) {
                int of = operation;
                String call = "operation " + operation + " with register " + bad;
                if (operation != Programs.STORE) {
                    Due.fails(call + " as D", ARGUMENT, () -> x.code(0, 0, of, bad, 0, 0));
                }
                if (operation != Programs.CONSTANT) {
                    Due.fails(call + " as A", ARGUMENT, () -> x.code(0, 0, of, 0, bad, 0));
                }
                if (operation >= Programs.ADD && operation != Programs.LOAD) {
                    Due.fails(call + " as B", ARGUMENT, () -> x.code(0, 0, of, 0, 0, bad));
                }
            }
        }
        Due.is("nothing was added", x.ending(0, 0, 4), 0);
    }

    private static void codeRefusesInItsOrder() {
        PassChecker x = new PassChecker();
        x.block(0);
        for (int program : new int[] {-1, 2}) {
            Due.fails("code of program " + program, INDEX, () -> x.code(program, 0, 99, 0, 0, 0));
        }
        for (int block : new int[] {-1, 1, 6}) {
            Due.fails("code of block " + block, INDEX, () -> x.code(0, block, 99, 0, 0, 0));
        }
        Due.fails("code of the target's block", INDEX, () -> x.code(1, 0, 0, 0, 0, 0));
        for (int i = 0; i < 8; i++) {
            x.code(0, 0, 0, 0, 0, 0);
        }
        Due.fails("wrong operation in a full block", ARGUMENT, () -> x.code(0, 0, 99, 0, 0, 0));
        Due.fails("wrong register in a full block", ARGUMENT, () -> x.code(0, 0, 0, 6, 0, 0));
        Due.fails("code in a full block", STATE, () -> x.code(0, 0, 0, 5, 0, 0));
    }

    private static void endSetsTheEnd() {
        PassChecker x = new PassChecker();
        x.block(0);
        x.end(0, 0, Programs.GO, 99, 5, -1);
        Due.is("GO", Programs.endOf(x, 0, 0), "0 0 5 0");
        x.end(0, 0, Programs.IF, 5, 4, 3);
        Due.is("IF", Programs.endOf(x, 0, 0), "1 5 4 3");
        x.end(0, 0, Programs.RETURN, 5, 99, -1);
        Due.is("RETURN", Programs.endOf(x, 0, 0), "2 5 0 0");
    }

    private static void endRefusesWrongFields() {
        PassChecker x = new PassChecker();
        x.block(0);
        x.end(0, 0, Programs.IF, 1, 2, 3);
        for (int bad : new int[] {-1, 6}) {
            failsToEnd(x, ARGUMENT, 0, 0, Programs.GO, 0, bad, 0);
            failsToEnd(x, ARGUMENT, 0, 0, Programs.IF, bad, 0, 0);
            failsToEnd(x, ARGUMENT, 0, 0, Programs.IF, 0, bad, 0);
            failsToEnd(x, ARGUMENT, 0, 0, Programs.IF, 0, 0, bad);
            failsToEnd(x, ARGUMENT, 0, 0, Programs.RETURN, bad, 0, 0);
        }
        failsToEnd(x, ARGUMENT, 0, 0, -1, 0, 0, 0);
        failsToEnd(x, ARGUMENT, 0, 0, 3, 0, 0, 0);
        failsToEnd(x, INDEX, 2, 0, 3, 0, 0, 0);
        failsToEnd(x, INDEX, -1, 0, 3, 0, 0, 0);
        failsToEnd(x, INDEX, 0, 1, 3, 0, 0, 0);
        failsToEnd(x, INDEX, 0, -1, 3, 0, 0, 0);
        failsToEnd(x, INDEX, 1, 0, 2, 0, 0, 0);
        Due.is("the end stays", Programs.endOf(x, 0, 0), "1 1 2 3");
    }

    private static void failsToEnd(PassChecker x, Class<? extends RuntimeException> want, int... of) {
        Due.fails("end" + Arrays.toString(of), want, () -> {
            x.end(of[0], of[1], of[2], of[3], of[4], of[5]);
            return "nothing";
        });
    }

    private static void wipeTakesAllBlocks() {
        PassChecker x = new PassChecker();
        for (int program = 0; program < 2; program++) {
            Programs.addBlock(x, program, Programs.code(Programs.ADD, 1, 2, 3));
            x.end(program, 0, Programs.GO, 0, 3, 0);
            x.block(program);
        }
        x.wipe(0);
        Due.fails("a wiped block", INDEX, () -> x.ending(0, 0, 0));
        Due.is("the other program stays", x.ending(1, 0, 4), 1);
        Due.is("block behind wipe", x.block(0), 0);
        Due.is("its end", Programs.endOf(x, 0, 0), "2 0 0 0");
        Due.is("its length", x.ending(0, 0, 4), 0);
        x.wipe(1);
        Due.fails("a wiped block", INDEX, () -> x.ending(1, 0, 0));
        for (int program : new int[] {-1, 2}) {
            Due.fails("wipe(" + program + ")", INDEX, () -> {
                x.wipe(program);
                return "nothing";
            });
        }
    }

    private static void instructionReadsFields() {
        PassChecker x = Programs.withSource(Programs.code(Programs.AND, 1, 2, 3),
                Programs.code(Programs.LESS, 5, 4, 0));
        Due.is("codes", Programs.codesOf(x, 0, 0), "5 1 2 3, 6 5 4 0");
        for (int what : new int[] {-1, 4}) {
            Due.fails("field " + what, ARGUMENT, () -> x.instruction(0, 0, 0, what));
        }
        for (int i : new int[] {-1, 2, 8}) {
            Due.fails("instruction " + i, INDEX, () -> x.instruction(0, 0, i, 4));
        }
        Due.fails("block 1", INDEX, () -> x.instruction(0, 1, 0, 4));
        Due.fails("block -1", INDEX, () -> x.instruction(0, -1, 0, 4));
        Due.fails("program 1, without blocks", INDEX, () -> x.instruction(1, 0, 0, 0));
        Due.fails("program 2", INDEX, () -> x.instruction(2, 0, 0, 4));
        Due.fails("program -1", INDEX, () -> x.instruction(-1, 0, 0, 4));
    }

    private static void endingReadsFields() {
        PassChecker x = Programs.withSource(Programs.code(Programs.AND, 1, 2, 3));
        x.end(0, 0, Programs.IF, 3, 4, 5);
        Due.is("end", Programs.endOf(x, 0, 0), "1 3 4 5");
        Due.is("length", x.ending(0, 0, 4), 1);
        for (int what : new int[] {-1, 5}) {
            Due.fails("field " + what, ARGUMENT, () -> x.ending(0, 0, what));
        }
        Due.fails("block 1", INDEX, () -> x.ending(0, 1, 5));
        Due.fails("block -1", INDEX, () -> x.ending(0, -1, 5));
        Due.fails("program 2", INDEX, () -> x.ending(2, 0, 5));
        Due.fails("program -1", INDEX, () -> x.ending(-1, 0, 5));
    }
}
