import java.util.Arrays;

/**
 * Holds a source and a target program, makes the target by passes, checks block by block whether it
 * does the same as the source, and runs both.
 *
 * <p>All rows are made once, with the object: no call makes anything but the exception it throws.
 */
public final class PassChecker {
    private static final int BLOCKS = 6;
    private static final int INSTRUCTIONS = 8;
    private static final int REGISTERS = 6;
    private static final int WORDS = 8;
    private static final int FIELDS = 4;
    private static final int MOST_STEPS = 500;

    private static final int CONSTANT = 0;
    private static final int MOVE = 1;
    private static final int ADD = 2;
    private static final int SUBTRACT = 3;
    private static final int MULTIPLY = 4;
    private static final int AND = 5;
    private static final int LESS = 6;
    private static final int DIVIDE = 7;
    private static final int LOAD = 8;
    private static final int STORE = 9;

    private static final int OPERATION = 0;
    private static final int D = 1;
    private static final int A = 2;
    private static final int B = 3;

    private static final int GO = 0;
    private static final int IF = 1;
    private static final int RETURN = 2;

    private static final int END_KIND = 0;
    private static final int END_A = 1;
    private static final int END_X = 2;
    private static final int END_Y = 3;

    private static final int FOLD = 0;
    private static final int REUSE = 1;
    private static final int ORDER = 2;

    private static final int OTHER_PARTNER = 1;
    private static final int OTHER_EFFECTS = 2;
    private static final int OTHER_END = 3;
    private static final int OTHER_REGISTER = 4;

    private static final int NOT_DONE = 0;
    private static final int RETURNED = 1;
    private static final int DIVIDE_TRAPPED = 2;
    private static final int LOAD_TRAPPED = 3;
    private static final int STORE_TRAPPED = 4;

    private final Program source;
    private final Program target;
    private final Folder folder;
    private final Reuser reuser;
    private final Orderer orderer;
    private final Checker checker;
    private final Machine machine;
    private boolean checkHolds;

    public PassChecker() {
        source = new Program();
        target = new Program();
        folder = new Folder();
        reuser = new Reuser();
        orderer = new Orderer();
        checker = new Checker();
        machine = new Machine();
        checkHolds = false;
    }

    public int block(int program) throws IndexOutOfBoundsException, IllegalStateException {
        Program changed = programOf(program);
        if (changed.isFull()) {
            throw new IllegalStateException("the program has 6 blocks");
        }
        checkHolds = false;
        return changed.addBlock();
    }

    public int code(int program, int block, int operation, int d, int a, int b)
            throws IndexOutOfBoundsException, IllegalArgumentException, IllegalStateException {
        Program changed = programOf(program);
        requireBlock(changed, block);
        if (operation < CONSTANT || operation > STORE) {
            throw new IllegalArgumentException("no such operation");
        }
        requireRegisterIf(writes(operation), d);
        requireRegisterIf(readsA(operation), a);
        requireRegisterIf(readsB(operation), b);
        if (changed.lengthOf(block) >= INSTRUCTIONS) {
            throw new IllegalStateException("the block has 8 instructions");
        }
        checkHolds = false;
        boolean usesB = readsB(operation) || operation == CONSTANT;
        return changed.addCode(block, operation, writes(operation) ? d : 0, readsA(operation) ? a : 0, usesB ? b : 0);
    }

    public void end(int program, int block, int kind, int a, int x, int y)
            throws IndexOutOfBoundsException, IllegalArgumentException {
        Program changed = programOf(program);
        requireBlock(changed, block);
        if (kind < GO || kind > RETURN) {
            throw new IllegalArgumentException("no such kind of end");
        }
        requireRegisterIf(kind != GO, a);
        requireGoalIf(kind != RETURN, x);
        requireGoalIf(kind == IF, y);
        checkHolds = false;
        changed.setEnd(block, kind, kind != GO ? a : 0, kind != RETURN ? x : 0, kind == IF ? y : 0);
    }

    public void wipe(int program) throws IndexOutOfBoundsException {
        Program changed = programOf(program);
        checkHolds = false;
        changed.clear();
    }

    public int pass(int kind) throws IllegalArgumentException {
        if (kind < FOLD || kind > ORDER) {
            throw new IllegalArgumentException("no such pass");
        }
        checkHolds = false;
        target.copyFrom(source);
        int blocks = source.blockCount();
        for (int block = 0; block < blocks; block++) {
            if (kind == FOLD) {
                folder.foldBlock(source, target, block);
            } else if (kind == REUSE) {
                reuser.reuseInBlock(source, target, block);
            } else {
                orderer.orderBlock(source, target, block);
            }
        }
        return target.differencesFrom(source);
    }

    public void take() {
        checkHolds = false;
        source.copyFrom(target);
    }

    public int instruction(int program, int block, int i, int what)
            throws IndexOutOfBoundsException, IllegalArgumentException {
        Program read = programOf(program);
        if (!read.hasCode(block, i)) {
            throw new IndexOutOfBoundsException("no such block or instruction");
        }
        if (what < 0 || what >= FIELDS) {
            throw new IllegalArgumentException("no such field of an instruction");
        }
        return read.codeAt(block, i, what);
    }

    public int ending(int program, int block, int what) throws IndexOutOfBoundsException, IllegalArgumentException {
        Program read = programOf(program);
        requireBlock(read, block);
        if (what < 0 || what > FIELDS) {
            throw new IllegalArgumentException("no such field of an end");
        }
        return what == FIELDS ? read.lengthOf(block) : read.endAt(block, what);
    }

    public int check() throws UnsupportedOperationException {
        checker.begin();
        for (int i = 0; i < BLOCKS && checker.isWaiting(i); i++) {
            int block = checker.waitingInSource(i);
            int partner = checker.partnerOf(block);
            checker.workOut(source, block, target, partner);
            checker.judge(block, partner);
        }
        checkHolds = true;
        if (checker.reason() != 0) {
            throw new UnsupportedOperationException("a pair of blocks is refused");
        }
        return checker.pairCount();
    }

    public int refused(int what) throws IllegalArgumentException {
        switch (what) {
            case 0:
                return checkHolds ? checker.reason() : -1;
            case 1:
                return checker.refusedInSource();
            case 2:
                return checker.refusedInTarget();
            default:
                throw new IllegalArgumentException("no such field of a refusal");
        }
    }

    public boolean same(int block, int register, int other, int second) throws IndexOutOfBoundsException {
        requireBlock(source, block);
        requireBlock(target, other);
        if (!isRegister(register) || !isRegister(second)) {
            throw new IndexOutOfBoundsException("no such register");
        }
        checker.workOut(source, block, target, other);
        return checker.hasSame(register, second);
    }

    public int effects(int program, int block) throws IndexOutOfBoundsException {
        Program read = programOf(program);
        requireBlock(read, block);
        return checker.countEffects(read, block);
    }

    public int run(int program, int first, int second, int steps)
            throws IndexOutOfBoundsException, IllegalArgumentException {
        Program read = programOf(program);
        if (steps < 0 || steps > MOST_STEPS) {
            throw new IllegalArgumentException("steps are 0 .. 500");
        }
        return machine.execute(read, first, second, steps);
    }

    public int returned() {
        return machine.result();
    }

    public int word(int at) throws IndexOutOfBoundsException {
        if (!isWord(at)) {
            throw new IndexOutOfBoundsException("no such word");
        }
        return machine.wordAt(at);
    }

    public int steps() {
        return machine.stepsDone();
    }

    private Program programOf(int program) {
        if (program != 0 && program != 1) {
            throw new IndexOutOfBoundsException("no such program");
        }
        return program == 0 ? source : target;
    }

    private static void requireBlock(Program program, int block) {
        if (!program.hasBlock(block)) {
            throw new IndexOutOfBoundsException("no such block");
        }
    }

    private static void requireRegisterIf(boolean used, int register) {
        if (used && !isRegister(register)) {
            throw new IllegalArgumentException("no such register");
        }
    }

    /** A goal need not be there (yet): a block that is not there returns at once. */
    private static void requireGoalIf(boolean used, int block) {
        if (used && (block < 0 || block >= BLOCKS)) {
            throw new IllegalArgumentException("no block can have this number");
        }
    }

    private static boolean isRegister(int register) {
        return register >= 0 && register < REGISTERS;
    }

    private static boolean isWord(int place) {
        return place >= 0 && place < WORDS;
    }

    private static boolean writes(int operation) {
        return operation != STORE;
    }

    private static boolean readsA(int operation) {
        return operation != CONSTANT;
    }

    private static boolean readsB(int operation) {
        return operation >= ADD && operation != LOAD;
    }

    private static boolean isCalculation(int operation) {
        return operation >= ADD && operation <= DIVIDE;
    }

    private static boolean dividesByZero(int operation, int b) {
        return operation == DIVIDE && b == 0;
    }

    /** Callers keep a / by 0 away, for what it means differs among them. */
    private static int calculate(int operation, int a, int b) {
        switch (operation) {
            case ADD:
                return a + b;
            case SUBTRACT:
                return a - b;
            case MULTIPLY:
                return a * b;
            case AND:
                return a & b;
            case LESS:
                return a < b ? 1 : 0;
            case DIVIDE:
                return b == 0 ? 0 : a / b;
            default:
                return 0;
        }
    }

    /** A program's blocks; one that is not there reads as one without instructions that returns register 0. */
    private static final class Program {
        private static final int NOTHING = -1;

        private final int[] codes = new int[BLOCKS * INSTRUCTIONS * FIELDS];
        private final int[] ends = new int[BLOCKS * FIELDS];
        private final int[] lengths = new int[BLOCKS];
        private int blocks = 0;

        int blockCount() {
            return blocks;
        }

        boolean isFull() {
            return blocks >= BLOCKS;
        }

        boolean hasBlock(int block) {
            return block >= 0 && block < blocks && block < BLOCKS;
        }

        boolean hasCode(int block, int i) {
            return i >= 0 && i < INSTRUCTIONS && i < lengthOf(block);
        }

        int lengthOf(int block) {
            return hasBlock(block) ? lengths[block] : 0;
        }

        int codeAt(int block, int i, int field) {
            boolean isThere = block >= 0 && block < blocks && block < BLOCKS
                    && i >= 0 && i < INSTRUCTIONS && field >= 0 && field < FIELDS;
            return isThere ? codes[(block * INSTRUCTIONS + i) * FIELDS + field] : 0;
        }

        int endAt(int block, int field) {
            if (block < 0 || block >= blocks || block >= BLOCKS) {
                return field == END_KIND ? RETURN : 0;
            }
            return field >= 0 && field < FIELDS ? ends[block * FIELDS + field] : 0;
        }

        /** The register that an instruction writes, or NOTHING. */
        int writtenAt(int block, int i) {
            return writes(codeAt(block, i, OPERATION)) ? codeAt(block, i, D) : NOTHING;
        }

        boolean readsAt(int block, int i, int register) {
            int operation = codeAt(block, i, OPERATION);
            return readsA(operation) && codeAt(block, i, A) == register
                    || readsB(operation) && codeAt(block, i, B) == register;
        }

        void clear() {
            blocks = 0;
        }

        int addBlock() {
            int block = blocks;
            if (block < 0 || block >= BLOCKS) {
                return -1;
            }
            blocks = block + 1;
            lengths[block] = 0;
            setEnd(block, RETURN, 0, 0, 0);
            return block;
        }

        int addCode(int block, int operation, int d, int a, int b) {
            int i = lengthOf(block);
            if (!hasBlock(block) || i >= INSTRUCTIONS) {
                return -1;
            }
            lengths[block] = i + 1;
            setCode(block, i, operation, d, a, b);
            return i;
        }

        void setCode(int block, int i, int operation, int d, int a, int b) {
            if (!hasCode(block, i)) {
                return;
            }
            int at = (block * INSTRUCTIONS + i) * FIELDS;
            codes[at + OPERATION] = operation;
            codes[at + D] = d;
            codes[at + A] = a;
            codes[at + B] = b;
        }

        void setEnd(int block, int kind, int a, int x, int y) {
            if (!hasBlock(block)) {
                return;
            }
            int at = block * FIELDS;
            ends[at + END_KIND] = kind;
            ends[at + END_A] = a;
            ends[at + END_X] = x;
            ends[at + END_Y] = y;
        }

        void copyFrom(Program other) {
            System.arraycopy(other.codes, 0, codes, 0, BLOCKS * INSTRUCTIONS * FIELDS);
            System.arraycopy(other.ends, 0, ends, 0, BLOCKS * FIELDS);
            System.arraycopy(other.lengths, 0, lengths, 0, BLOCKS);
            blocks = other.blocks;
        }

        /** For programs of the same shape, as a pass leaves them. */
        int differencesFrom(Program other) {
            int differences = 0;
            for (int block = 0; block < blocks; block++) {
                int length = lengthOf(block);
                for (int i = 0; i < length; i++) {
                    if (hasOtherCode(other, block, i)) {
                        differences++;
                    }
                }
                if (hasOtherEnd(other, block)) {
                    differences++;
                }
            }
            return differences;
        }

        private boolean hasOtherCode(Program other, int block, int i) {
            for (int what = 0; what < FIELDS; what++) {
                if (codeAt(block, i, what) != other.codeAt(block, i, what)) {
                    return true;
                }
            }
            return false;
        }

        private boolean hasOtherEnd(Program other, int block) {
            for (int what = 0; what < FIELDS; what++) {
                if (endAt(block, what) != other.endAt(block, what)) {
                    return true;
                }
            }
            return false;
        }
    }

    /** The pass FOLD. */
    private static final class Folder {
        private final boolean[] known = new boolean[REGISTERS];
        private final int[] numbers = new int[REGISTERS];

        void foldBlock(Program source, Program target, int block) {
            for (int register = 0; register < REGISTERS; register++) {
                forget(register);
            }
            int length = source.lengthOf(block);
            for (int i = 0; i < length; i++) {
                foldCode(source, target, block, i);
            }
            foldEnd(source, target, block);
        }

        private void foldCode(Program source, Program target, int block, int i) {
            int operation = source.codeAt(block, i, OPERATION);
            int d = source.codeAt(block, i, D);
            int a = source.codeAt(block, i, A);
            int b = source.codeAt(block, i, B);
            if (operation == CONSTANT) {
                note(d, b);
            } else if (operation == MOVE && isKnown(a)) {
                note(d, numberIn(a));
                target.setCode(block, i, CONSTANT, d, 0, numberIn(d));
            } else if (isCalculation(operation) && canCalculate(operation, a, b)) {
                note(d, calculate(operation, numberIn(a), numberIn(b)));
                target.setCode(block, i, CONSTANT, d, 0, numberIn(d));
            } else if (writes(operation)) {
                forget(d);
            }
        }

        private boolean canCalculate(int operation, int a, int b) {
            return isKnown(a) && isKnown(b) && !dividesByZero(operation, numberIn(b));
        }

        private void foldEnd(Program source, Program target, int block) {
            int a = source.endAt(block, END_A);
            if (source.endAt(block, END_KIND) == IF && isKnown(a)) {
                int goal = numberIn(a) != 0 ? source.endAt(block, END_X) : source.endAt(block, END_Y);
                target.setEnd(block, GO, 0, goal, 0);
            }
        }

        private boolean isKnown(int register) {
            return isRegister(register) && known[register];
        }

        private int numberIn(int register) {
            return isRegister(register) ? numbers[register] : 0;
        }

        private void note(int register, int number) {
            if (isRegister(register)) {
                known[register] = true;
                numbers[register] = number;
            }
        }

        private void forget(int register) {
            if (isRegister(register)) {
                known[register] = false;
            }
        }
    }

    /** The pass REUSE. It looks at the source alone: what it has made a MOVE counts as done before, too. */
    private static final class Reuser {

        void reuseInBlock(Program source, Program target, int block) {
            int length = source.lengthOf(block);
            for (int i = 0; i < length; i++) {
                int operation = source.codeAt(block, i, OPERATION);
                int earlier = operation == LOAD || isCalculation(operation) ? findEarlier(source, block, i) : -1;
                if (earlier >= 0) {
                    target.setCode(block, i, MOVE, source.codeAt(block, i, D), source.codeAt(block, earlier, D), 0);
                }
            }
        }

        private int findEarlier(Program source, int block, int i) {
            for (int earlier = 0; earlier < i; earlier++) {
                if (isSameWork(source, block, earlier, i) && stillHolds(source, block, earlier, i)) {
                    return earlier;
                }
            }
            return -1;
        }

        private boolean isSameWork(Program source, int block, int one, int other) {
            return source.codeAt(block, one, OPERATION) == source.codeAt(block, other, OPERATION)
                    && source.codeAt(block, one, A) == source.codeAt(block, other, A)
                    && source.codeAt(block, one, B) == source.codeAt(block, other, B);
        }

        private boolean stillHolds(Program source, int block, int earlier, int now) {
            int d = source.codeAt(block, earlier, D);
            if (source.readsAt(block, earlier, d)) {
                return false;
            }
            boolean loads = source.codeAt(block, earlier, OPERATION) == LOAD;
            for (int i = earlier + 1; i < now; i++) {
                int written = source.writtenAt(block, i);
                if (loads && source.codeAt(block, i, OPERATION) == STORE) {
                    return false;
                }
                if (written == d || source.readsAt(block, earlier, written)) {
                    return false;
                }
            }
            return true;
        }
    }

    /** The pass ORDER. */
    private static final class Orderer {
        private static final int[] TAKES = {1, 1, 1, 1, 3, 1, 1, 4, 2, 1};

        private final int[] heights = new int[INSTRUCTIONS];
        private final boolean[] placed = new boolean[INSTRUCTIONS];

        void orderBlock(Program source, Program target, int block) {
            int length = Math.min(source.lengthOf(block), INSTRUCTIONS);
            for (int i = length - 1; i >= 0; i--) {
                placed[i] = false;
                heights[i] = heightOf(source, block, i, length);
            }
            for (int place = 0; place < length; place++) {
                int i = findNext(source, block, length);
                if (i >= 0 && i < INSTRUCTIONS) {
                    placed[i] = true;
                    target.setCode(block, place, source.codeAt(block, i, OPERATION), source.codeAt(block, i, D),
                            source.codeAt(block, i, A), source.codeAt(block, i, B));
                }
            }
        }

        /** The heights of those behind it are known: the caller goes from the last one to the first. */
        private int heightOf(Program source, int block, int i, int length) {
            int greatest = 0;
            for (int later = i + 1; later < length && later < INSTRUCTIONS; later++) {
                if (depends(source, block, later, i)) {
                    greatest = Math.max(greatest, heights[later]);
                }
            }
            int operation = source.codeAt(block, i, OPERATION);
            return greatest + (operation >= 0 && operation < TAKES.length ? TAKES[operation] : 0);
        }

        private int findNext(Program source, int block, int length) {
            int best = -1;
            int bestHeight = 0;
            for (int i = 0; i < length && i < INSTRUCTIONS; i++) {
                if (!placed[i] && heights[i] > bestHeight && isFree(source, block, i)) {
                    best = i;
                    bestHeight = heights[i];
                }
            }
            return best;
        }

        private boolean isFree(Program source, int block, int i) {
            for (int earlier = 0; earlier < i && earlier < INSTRUCTIONS; earlier++) {
                if (!placed[earlier] && depends(source, block, i, earlier)) {
                    return false;
                }
            }
            return true;
        }

        private boolean depends(Program source, int block, int later, int earlier) {
            int laterOperation = source.codeAt(block, later, OPERATION);
            int earlierOperation = source.codeAt(block, earlier, OPERATION);
            int laterWrites = source.writtenAt(block, later);
            int earlierWrites = source.writtenAt(block, earlier);
            return laterOperation >= DIVIDE && earlierOperation >= DIVIDE
                    || laterWrites == earlierWrites
                    || source.readsAt(block, later, earlierWrites)
                    || source.readsAt(block, earlier, laterWrites);
        }
    }

    /**
     * The values that two blocks come to. Equal values and equal atoms are kept once, so that two of
     * them are the same just if their numbers in these rows are.
     */
    private static final class Values {
        /** Each instruction of two blocks makes at most one new atom and one new value. */
        private static final int MOST = REGISTERS + 2 * INSTRUCTIONS;
        private static final int COLUMNS = MOST + 1;
        private static final int REGISTER_ATOM = -1;

        /** Row v is value v: column 0 its number, column 1 + k its multiple of atom k. */
        private final int[][] rows = new int[MOST][COLUMNS];
        private final boolean[] areNumbers = new boolean[MOST];
        private final int[] atomKinds = new int[MOST];
        private final int[] atomLefts = new int[MOST];
        private final int[] atomRights = new int[MOST];
        private final int[] atomValues = new int[MOST];
        private final int[] draft = new int[COLUMNS];
        private int valueCount = 0;
        private int atomCount = 0;

        /** Leaves value r to be what register r was when the block began. */
        void begin() {
            valueCount = 0;
            atomCount = 0;
            for (int register = 0; register < REGISTERS; register++) {
                makeAtom(REGISTER_ATOM, register, 0);
            }
        }

        boolean isNumber(int value) {
            return value >= 0 && value < MOST && areNumbers[value];
        }

        int numberOf(int value) {
            return cell(value, 0);
        }

        int makeNumber(int number) {
            Arrays.fill(draft, 0);
            draft[0] = number;
            return keepDraft();
        }

        /** One value and so many times another one. */
        int makeSum(int one, int other, int times) {
            for (int column = 0; column < COLUMNS; column++) {
                draft[column] = cell(one, column) + times * cell(other, column);
            }
            return keepDraft();
        }

        int makeProduct(int one, int other) {
            if (!isNumber(one) && !isNumber(other)) {
                return makeAtom(MULTIPLY, Math.min(one, other), Math.max(one, other));
            }
            int times = isNumber(one) ? numberOf(one) : numberOf(other);
            int multiplied = isNumber(one) ? other : one;
            for (int column = 0; column < COLUMNS; column++) {
                draft[column] = times * cell(multiplied, column);
            }
            return keepDraft();
        }

        int makeAnd(int one, int other) {
            if (one == other || isThis(one, 0) || isThis(other, -1)) {
                return one;
            }
            if (isThis(other, 0) || isThis(one, -1)) {
                return other;
            }
            return makeAtom(AND, Math.min(one, other), Math.max(one, other));
        }

        int makeQuotient(int one, int other) {
            return isThis(other, 1) ? one : makeAtom(DIVIDE, one, other);
        }

        /** The value that is one such atom. */
        int makeAtom(int kind, int left, int right) {
            for (int atom = 0; atom < atomCount && atom < MOST; atom++) {
                if (atomKinds[atom] == kind && atomLefts[atom] == left && atomRights[atom] == right) {
                    return atomValues[atom];
                }
            }
            int added = atomCount;
            if (added < 0 || added >= MOST) {
                return 0;
            }
            atomCount = added + 1;
            Arrays.fill(draft, 0);
            draft[1 + added] = 1;
            int value = addDraft();
            atomKinds[added] = kind;
            atomLefts[added] = left;
            atomRights[added] = right;
            atomValues[added] = value;
            return value;
        }

        private boolean isThis(int value, int number) {
            return isNumber(value) && cell(value, 0) == number;
        }

        private int keepDraft() {
            for (int value = 0; value < valueCount && value < MOST; value++) {
                if (isDraft(rows[value])) {
                    return value;
                }
            }
            return addDraft();
        }

        private int addDraft() {
            int added = valueCount;
            if (added < 0 || added >= MOST) {
                return 0;
            }
            valueCount = added + 1;
            System.arraycopy(draft, 0, rows[added], 0, COLUMNS);
            areNumbers[added] = true;
            for (int column = 1; column < COLUMNS; column++) {
                if (draft[column] != 0) {
                    areNumbers[added] = false;
                }
            }
            return added;
        }

        private boolean isDraft(int[] row) {
            for (int column = 0; column < COLUMNS && column < row.length; column++) {
                if (row[column] != draft[column]) {
                    return false;
                }
            }
            return true;
        }

        private int cell(int value, int column) {
            boolean isThere = value >= 0 && value < MOST && column >= 0 && column < COLUMNS;
            return isThere ? rows[value][column] : 0;
        }
    }

    /** A block worked out: its registers' values, its effects and its end. */
    private static final class Outcome {
        private final int[] registers = new int[REGISTERS];
        private final int[] effectKinds = new int[INSTRUCTIONS];
        private final int[] effectLefts = new int[INSTRUCTIONS];
        private final int[] effectRights = new int[INSTRUCTIONS];
        private int effectCount = 0;
        private int stores = 0;
        private int kind = RETURN;
        private int value = 0;
        private int x = 0;
        private int y = 0;

        void fillFrom(Values values, Program program, int block) {
            effectCount = 0;
            stores = 0;
            for (int register = 0; register < REGISTERS; register++) {
                registers[register] = register;
            }
            int length = program.lengthOf(block);
            for (int i = 0; i < length; i++) {
                int operation = program.codeAt(block, i, OPERATION);
                int number = program.codeAt(block, i, B);
                int a = valueIn(program.codeAt(block, i, A));
                int b = valueIn(number);
                noteEffect(values, operation, a, b);
                int made = operation == CONSTANT ? values.makeNumber(number) : combine(values, operation, a, b);
                write(program.writtenAt(block, i), made);
            }
            workOutEnd(values, program, block);
        }

        int countOfEffects() {
            return effectCount;
        }

        int endKind() {
            return kind;
        }

        int goalX() {
            return x;
        }

        int goalY() {
            return y;
        }

        int valueIn(int register) {
            return isRegister(register) ? registers[register] : 0;
        }

        boolean hasEffectsOf(Outcome other) {
            if (effectCount != other.effectCount) {
                return false;
            }
            for (int i = 0; i < effectCount && i < INSTRUCTIONS; i++) {
                if (!isEffect(i, other.effectKinds[i], other.effectLefts[i], other.effectRights[i])) {
                    return false;
                }
            }
            return true;
        }

        boolean hasEndOf(Outcome other) {
            return kind == other.kind && value == other.value;
        }

        boolean hasRegistersOf(Outcome other) {
            for (int register = 0; register < REGISTERS; register++) {
                if (registers[register] != other.registers[register]) {
                    return false;
                }
            }
            return true;
        }

        /** A / or a LOAD that can trap is an effect when its atom is first made, so the effects tell if it was. */
        private void noteEffect(Values values, int operation, int a, int b) {
            if (operation == STORE) {
                addEffect(STORE, a, b);
                stores++;
            } else if (operation == DIVIDE && (!values.isNumber(b) || values.numberOf(b) == 0)) {
                addEffectOnce(DIVIDE, a, b);
            } else if (operation == LOAD && (!values.isNumber(a) || !isWord(values.numberOf(a)))) {
                addEffectOnce(LOAD, a, stores);
            }
        }

        private int combine(Values values, int operation, int a, int b) {
            boolean areNumbers = values.isNumber(a) && values.isNumber(b);
            if (isCalculation(operation) && areNumbers && !dividesByZero(operation, values.numberOf(b))) {
                return values.makeNumber(calculate(operation, values.numberOf(a), values.numberOf(b)));
            }
            switch (operation) {
                case ADD:
                    return values.makeSum(a, b, 1);
                case SUBTRACT:
                    return values.makeSum(a, b, -1);
                case MULTIPLY:
                    return values.makeProduct(a, b);
                case AND:
                    return values.makeAnd(a, b);
                case LESS:
                    return a == b ? values.makeNumber(0) : values.makeAtom(LESS, a, b);
                case DIVIDE:
                    return values.makeQuotient(a, b);
                case LOAD:
                    return values.makeAtom(LOAD, a, stores);
                default:
                    return a;
            }
        }

        /** What an end does not use becomes 0, so that the value of two GOs is the same. */
        private void workOutEnd(Values values, Program program, int block) {
            kind = program.endAt(block, END_KIND);
            value = kind == GO ? 0 : valueIn(program.endAt(block, END_A));
            x = program.endAt(block, END_X);
            y = program.endAt(block, END_Y);
            if (kind != IF) {
                return;
            }
            boolean isKnown = values.isNumber(value);
            if (isKnown || x == y) {
                x = isKnown && values.numberOf(value) == 0 ? y : x;
                kind = GO;
                value = 0;
                y = 0;
            }
        }

        private void write(int register, int written) {
            if (isRegister(register)) {
                registers[register] = written;
            }
        }

        private void addEffectOnce(int effectKind, int left, int right) {
            for (int i = 0; i < effectCount && i < INSTRUCTIONS; i++) {
                if (isEffect(i, effectKind, left, right)) {
                    return;
                }
            }
            addEffect(effectKind, left, right);
        }

        private void addEffect(int effectKind, int left, int right) {
            int i = effectCount;
            if (i >= 0 && i < INSTRUCTIONS) {
                effectCount = i + 1;
                effectKinds[i] = effectKind;
                effectLefts[i] = left;
                effectRights[i] = right;
            }
        }

        private boolean isEffect(int i, int effectKind, int left, int right) {
            return i >= 0 && i < INSTRUCTIONS
                    && effectKinds[i] == effectKind && effectLefts[i] == left && effectRights[i] == right;
        }
    }

    /** Knows which blocks correspond, judges pairs of them, and remembers the one that it refused. */
    private static final class Checker {
        private static final int NONE = -1;

        private final Values values = new Values();
        private final Outcome ofSource = new Outcome();
        private final Outcome ofTarget = new Outcome();
        /** The target's block that each of the source's blocks corresponds to. */
        private final int[] partners = new int[BLOCKS];
        /** The source's blocks in the order in which they came to correspond. */
        private final int[] arrivals = new int[BLOCKS];
        private int pairs = 0;
        private int reason = 0;
        private int sourceBlock = NONE;
        private int targetBlock = NONE;

        void begin() {
            Arrays.fill(partners, NONE);
            pairs = 0;
            reason = 0;
            sourceBlock = NONE;
            targetBlock = NONE;
            meet(0, 0);
        }

        boolean isWaiting(int i) {
            return reason == 0 && i < pairs;
        }

        int waitingInSource(int i) {
            return i >= 0 && i < BLOCKS ? arrivals[i] : NONE;
        }

        int partnerOf(int block) {
            return block >= 0 && block < BLOCKS ? partners[block] : NONE;
        }

        void workOut(Program source, int block, Program target, int partner) {
            values.begin();
            ofSource.fillFrom(values, source, block);
            ofTarget.fillFrom(values, target, partner);
        }

        /** Of the pair that was just worked out. */
        void judge(int block, int partner) {
            if (!ofSource.hasEffectsOf(ofTarget)) {
                refuse(OTHER_EFFECTS, block, partner);
            } else if (!ofSource.hasEndOf(ofTarget)) {
                refuse(OTHER_END, block, partner);
            } else if (ofSource.endKind() != RETURN && !ofSource.hasRegistersOf(ofTarget)) {
                refuse(OTHER_REGISTER, block, partner);
            } else {
                meetGoals();
            }
        }

        boolean hasSame(int register, int second) {
            return ofSource.valueIn(register) == ofTarget.valueIn(second);
        }

        int countEffects(Program program, int block) {
            values.begin();
            ofSource.fillFrom(values, program, block);
            return ofSource.countOfEffects();
        }

        int reason() {
            return reason;
        }

        int refusedInSource() {
            return sourceBlock;
        }

        int refusedInTarget() {
            return targetBlock;
        }

        int pairCount() {
            return pairs;
        }

        private void meetGoals() {
            int kind = ofSource.endKind();
            if (kind != RETURN) {
                meet(ofSource.goalX(), ofTarget.goalX());
            }
            if (kind == IF) {
                meet(ofSource.goalY(), ofTarget.goalY());
            }
        }

        /** A pair that cannot come to correspond is refused at once, before those that wait to be looked at. */
        private void meet(int block, int partner) {
            if (reason != 0 || block < 0 || block >= BLOCKS || partners[block] == partner) {
                return;
            }
            if (partners[block] != NONE) {
                refuse(OTHER_PARTNER, block, partner);
            } else if (pairs >= 0 && pairs < BLOCKS) {
                partners[block] = partner;
                arrivals[pairs] = block;
                pairs++;
            }
        }

        private void refuse(int why, int block, int partner) {
            reason = why;
            sourceBlock = block;
            targetBlock = partner;
        }
    }

    /** Runs a program, and keeps what the latest run left. */
    private static final class Machine {
        private final int[] registers = new int[REGISTERS];
        private final int[] words = new int[WORDS];
        private int block = 0;
        private int at = 0;
        private int done = 0;
        private int result = 0;

        int execute(Program program, int first, int second, int limit) {
            begin(first, second);
            int state = NOT_DONE;
            for (int i = 0; i < limit && state == NOT_DONE; i++) {
                state = at < program.lengthOf(block) ? doCode(program) : doEnd(program);
            }
            return state;
        }

        int result() {
            return result;
        }

        int stepsDone() {
            return done;
        }

        int wordAt(int place) {
            return isWord(place) ? words[place] : 0;
        }

        private void begin(int first, int second) {
            Arrays.fill(registers, 0);
            Arrays.fill(words, 0);
            write(0, first);
            write(1, second);
            block = 0;
            at = 0;
            done = 0;
            result = 0;
        }

        private int doCode(Program program) {
            int operation = program.codeAt(block, at, OPERATION);
            int d = program.codeAt(block, at, D);
            int a = valueIn(program.codeAt(block, at, A));
            int b = valueIn(program.codeAt(block, at, B));
            int trap = trapOf(operation, a, b);
            if (trap != NOT_DONE) {
                return trap;
            }
            if (operation == CONSTANT) {
                write(d, program.codeAt(block, at, B));
            } else if (operation == MOVE) {
                write(d, a);
            } else if (operation == LOAD) {
                write(d, wordAt(a));
            } else if (operation == STORE) {
                store(a, b);
            } else {
                write(d, calculate(operation, a, b));
            }
            at++;
            done++;
            return NOT_DONE;
        }

        private int trapOf(int operation, int a, int b) {
            if (dividesByZero(operation, b)) {
                return DIVIDE_TRAPPED;
            }
            if (operation == LOAD && !isWord(a)) {
                return LOAD_TRAPPED;
            }
            return operation == STORE && !isWord(a) ? STORE_TRAPPED : NOT_DONE;
        }

        private int doEnd(Program program) {
            int kind = program.endAt(block, END_KIND);
            int a = valueIn(program.endAt(block, END_A));
            done++;
            if (kind == RETURN) {
                result = a;
                return RETURNED;
            }
            block = kind == IF && a == 0 ? program.endAt(block, END_Y) : program.endAt(block, END_X);
            at = 0;
            return NOT_DONE;
        }

        private int valueIn(int register) {
            return isRegister(register) ? registers[register] : 0;
        }

        private void write(int register, int value) {
            if (isRegister(register)) {
                registers[register] = value;
            }
        }

        private void store(int place, int value) {
            if (isWord(place)) {
                words[place] = value;
            }
        }
    }
}
