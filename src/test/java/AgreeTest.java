/**
 * What the document says the checker is for, held against runs: a target that it accepts does the same as the
 * source, and it accepts what the three passes make. The programs are always the same ones: a counter of its
 * own picks them.
 */
public final class AgreeTest {
    private static final int SOURCES = 3000;
    private static final int EDITED = 6000;
    private static final int MOST_STEPS = 500;
    private static final int NOT_DONE = 0;
    private static final int RETURNED = 1;
    private static final int[] NUMBERS = {0, 1, 2, 3, 7, 8, -1, Integer.MIN_VALUE, Integer.MAX_VALUE, 1 << 16};
    private static final int[][] INPUTS = {{0, 0}, {1, 0}, {0, 1}, {3, 5}, {7, -1}, {8, 2}, {-1, 8},
        {Integer.MIN_VALUE, -1}, {Integer.MAX_VALUE, 7}};

    private static long seed = 20261116;
    private static int acceptedEdits = 0;
    private static int refusedEdits = 0;
    private static final int[] changedBy = new int[3];
    private static final int[] outcomes = new int[5];

    public static void main(String[] args) {
        for (int i = 0; i < SOURCES; i++) {
            passesKeepWhatIsDone(i);
        }
        for (int i = 0; i < EDITED; i++) {
            acceptedEditsKeepWhatIsDone(i);
        }
        theTestIsWorthIt();
        Due.finish();
    }

    /** If programs that get here were all alike, nothing would have been tried. */
    private static void theTestIsWorthIt() {
        Due.is("many edits were accepted", acceptedEdits > 1000, true);
        Due.is("many edits were refused", refusedEdits > 1000, true);
        for (int kind = 0; kind < changedBy.length; kind++) {
            Due.is("pass " + kind + " often changed something", changedBy[kind] > 200, true);
        }
        for (int outcome = 0; outcome < outcomes.length; outcome++) {
            Due.is("runs often ended as " + outcome, outcomes[outcome] > 200, true);
        }
    }

    private static int below(int bound) {
        seed = seed * 6364136223846793005L + 1442695040888963407L;
        return (int) ((seed >>> 33) % bound);
    }

    /** Each pass once, the next one on what the one before it made. */
    private static void passesKeepWhatIsDone(int i) {
        PassChecker x = new PassChecker();
        int blocks = 1 + below(4);
        int registers = 2 + below(5);
        for (int block = 0; block < blocks; block++) {
            addBlock(x, block, 1 + below(8), registers, blocks);
        }
        int first = below(3);
        for (int k = 0; k < 3; k++) {
            int kind = (first + k) % 3;
            Due.by("What it is", "three passes make the target of the source; a checker looks whether the target does"
                    + " the same");
            changedBy[kind] += x.pass(kind) > 0 ? 1 : 0;
            Object pairs = Due.answerOf(x::check);
            Due.is("source " + i + ", pass " + kind + ", accepted", pairs instanceof Integer, true);
            Due.is("source " + i + ", pass " + kind + ", reason", x.refused(0), 0);
            holdRuns("source " + i + ", pass " + kind, x, 3, true);
            x.take();
        }
    }

    private static void addBlock(PassChecker x, int block, int length, int registers, int blocks) {
        x.block(0);
        for (int k = 0; k < length; k++) {
            if (k > 0 && below(3) == 0) {
                addAgain(x, block, below(k), registers);
            } else {
                addCode(x, 0, block, registers);
            }
        }
        x.end(0, block, below(3), below(registers), below(blocks + 1), below(blocks + 1));
    }

    /** An instruction that stands there, with another D: something for REUSE to find. */
    private static void addAgain(PassChecker x, int block, int i, int registers) {
        x.code(0, block, x.instruction(0, block, i, 0), below(registers), x.instruction(0, block, i, 2),
                x.instruction(0, block, i, 3));
    }

    private static void addCode(PassChecker x, int program, int block, int registers) {
        int operation = below(10);
        int b = operation == 0 ? NUMBERS[below(NUMBERS.length)] : below(registers);
        x.code(program, block, operation, below(registers), below(registers), b);
    }

    /** The target is the source with an instruction or an end written otherwise. */
    private static void acceptedEditsKeepWhatIsDone(int i) {
        PassChecker x = new PassChecker();
        int blocks = 1 + below(2);
        int registers = 2 + below(2);
        for (int block = 0; block < blocks; block++) {
            addBlock(x, block, 2 + below(5), registers, blocks);
        }
        copyEdited(x, blocks, registers);
        Due.by("What it is", "a checker looks whether the target does the same");
        if (Due.answerOf(x::check) instanceof Integer) {
            acceptedEdits += isEdited(x, blocks) ? 1 : 0;
            holdRuns("edited source " + i, x, INPUTS.length, false);
        } else {
            refusedEdits++;
        }
    }

    /** What was picked for an edit may be what stood there. */
    private static boolean isEdited(PassChecker x, int blocks) {
        boolean edited = false;
        for (int block = 0; block < blocks; block++) {
            edited |= !Programs.codesOf(x, 0, block).equals(Programs.codesOf(x, 1, block));
        }
        return edited;
    }

    private static void copyEdited(PassChecker x, int blocks, int registers) {
        int edited = below(blocks);
        for (int block = 0; block < blocks; block++) {
            x.block(1);
            int length = x.ending(0, block, 4);
            int at = block == edited ? below(length) : -1;
            for (int k = 0; k < length; k++) {
                if (k == at) {
                    edit(x, block, k, registers);
                } else {
                    x.code(1, block, x.instruction(0, block, k, 0), x.instruction(0, block, k, 1),
                            x.instruction(0, block, k, 2), x.instruction(0, block, k, 3));
                }
            }
            x.end(1, block, x.ending(0, block, 0), x.ending(0, block, 1), x.ending(0, block, 2), x.ending(0, block, 3));
        }
    }

    /** Half of the edits only write A and B the other way round; of others the operation stays now and then. */
    private static void edit(PassChecker x, int block, int i, int registers) {
        int operation = x.instruction(0, block, i, 0);
        int d = x.instruction(0, block, i, 1);
        if (operation >= 2 && operation <= 7 && below(2) == 0) {
            x.code(1, block, operation, d, x.instruction(0, block, i, 3), x.instruction(0, block, i, 2));
        } else if (below(2) == 0) {
            x.code(1, block, 1 + below(7), d, below(registers), below(registers));
        } else {
            addCode(x, 1, block, registers);
        }
    }

    /** Where a limit of steps cut a run off, the other one may have got further. */
    private static void holdRuns(String what, PassChecker x, int inputs, boolean sameLength) {
        int from = below(INPUTS.length);
        for (int k = 0; k < inputs; k++) {
            int[] input = INPUTS[(from + k) % INPUTS.length];
            int outcome = x.run(0, input[0], input[1], MOST_STEPS);
            String done = doneBy(x, outcome, sameLength);
            int other = x.run(1, input[0], input[1], MOST_STEPS);
            outcomes[outcome]++;
            if (outcome != NOT_DONE && other != NOT_DONE) {
                Due.is(what + ", run with " + input[0] + ", " + input[1], doneBy(x, other, sameLength), done);
            }
        }
    }

    private static String doneBy(PassChecker x, int outcome, boolean sameLength) {
        StringBuilder text = new StringBuilder();
        text.append("outcome ").append(outcome).append(", returned ").append(x.returned()).append(", words");
        for (int at = 0; at < 8; at++) {
            text.append(' ').append(x.word(at));
        }
        if (sameLength && outcome == RETURNED) {
            text.append(", steps ").append(x.steps());
        }
        return text.toString();
    }
}
