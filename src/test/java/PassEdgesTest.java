/** The edges that the document names, sentence by sentence: promises 6 and 7, and the passes. */
public final class PassEdgesTest {
    private static final int FOLD = 0;
    private static final int REUSE = 1;
    private static final int ORDER = 2;

    public static void main(String[] args) {
        passOfNoKind();
        passOfNothing();
        passOfAsManyBlocks();
        passOfAFullProgram();
        passLeavesTheSource();
        passCountsPlaceByPlace();
        eachBlockByItself();
        foldNotesConstants();
        foldKeepsD();
        foldNeedsKnownOnes();
        foldWrapsAround();
        foldNotByZero();
        foldOfIf();
        foldOfIfAtTheEnd();
        reuseOfTwoToEight();
        reuseOfTheSameRegisters();
        reuseNotOfWrittenOnes();
        reuseNotOfWhatItWrites();
        reuseNotPastAStore();
        reuseNotOfAWrittenResult();
        reuseOfTheFirst();
        reuseOfAFullBlock();
        orderDepends();
        orderOfSevenToNine();
        orderTakes();
        orderGreatestOfThoseThatDepend();
        orderOfEqualOnes();
        orderOfThoseThatAreLeft();
        orderOfAFullBlock();
        takeOfNothing();
        takeOfAFullProgram();
        takeIsACopy();
        Due.finish();
    }

    private static int[] code(int operation, int d, int a, int b) {
        return Programs.code(operation, d, a, b);
    }

    private static int[] constant(int d, int number) {
        return code(Programs.CONSTANT, d, 0, number);
    }

    private static int[] move(int d, int a) {
        return code(Programs.MOVE, d, a, 0);
    }

    private static int[] add(int d, int a, int b) {
        return code(Programs.ADD, d, a, b);
    }

    private static int[] load(int d, int a) {
        return code(Programs.LOAD, d, a, 0);
    }

    private static int[] store(int a, int b) {
        return code(Programs.STORE, 0, a, b);
    }

    private static String textOf(int[]... codes) {
        return Programs.codesOf(Programs.withSource(codes), 0, 0);
    }

    private static int[][] codes(int[]... codes) {
        return codes;
    }

    /** A pass of one block: what becomes of it, and how many are others. */
    private static void due(String what, int pass, int[][] source, int others, int[]... want) {
        PassChecker x = Programs.withSource(source);
        Due.is(what + ": how many are others", x.pass(pass), others);
        Due.is(what + ": the target", Programs.codesOf(x, 1, 0), textOf(want));
        Due.is(what + ": the source", Programs.codesOf(x, 0, 0), textOf(source));
    }

    /** A pass of one block that leaves it as it is. */
    private static void dueSame(String what, int pass, int[]... source) {
        due(what, pass, source, 0, source);
    }

    private static PassChecker full(int[]... codes) {
        PassChecker x = new PassChecker();
        for (int block = 0; block < 6; block++) {
            Programs.addBlock(x, 0, codes);
        }
        return x;
    }

    private static void passOfNoKind() {
        Due.by("Promise 6", "IllegalArgumentException if there is no such pass.");
        for (int kind : Edges.outside(3)) {
            Edges.refuses("pass(" + kind + ")", Edges.ARGUMENT, x -> x.pass(kind));
            Edges.refuses("pass(" + kind + ") of nothing", Edges.ARGUMENT, PassChecker::new, x -> x.pass(kind));
        }
    }

    private static void passOfNothing() {
        Due.by("Terms", "THE PASSES make a target of as many blocks");
        for (int kind = 0; kind < 3; kind++) {
            PassChecker x = Edges.busy();
            x.wipe(0);
            Due.is("pass(" + kind + ") of nothing", x.pass(kind), 0);
            Due.is("blocks of the target", Edges.blocksOf(x, 1), 0);
            PassChecker bare = Programs.withSource();
            Due.is("pass(" + kind + ") of an empty block", bare.pass(kind), 0);
            Due.is("the target", Edges.programOf(bare, 1), "[ | 2 0 0 0] ");
        }
    }

    private static void passOfAsManyBlocks() {
        Due.by("Terms", "THE PASSES make a target of as many blocks");
        for (int kind = 0; kind < 3; kind++) {
            for (int blocks : new int[] {1, 5, 6}) {
                PassChecker x = new PassChecker();
                for (int block = 0; block < blocks; block++) {
                    Programs.addBlock(x, 0, store(block, block));
                    x.end(0, block, Programs.GO, 0, 5 - block, 0);
                    Programs.addBlock(x, 1, add(1, 1, 1), add(2, 2, 2));
                }
                for (int block = blocks; block < 6; block++) {
                    Programs.addBlock(x, 1, add(3, 3, 3));
                }
                Due.is("pass(" + kind + ") of " + blocks, x.pass(kind), 0);
                Due.is("the target", Edges.programOf(x, 1), Edges.programOf(x, 0));
            }
        }
    }

    private static void passOfAFullProgram() {
        Due.by("Promise 6", "how many instructions and ends are others than there (place by place).");
        PassChecker x = full(constant(0, 1), move(1, 0), move(2, 0), move(3, 0), move(4, 0), move(5, 0),
                add(0, 0, 0), add(1, 0, 5));
        for (int block = 0; block < 6; block++) {
            x.end(0, block, Programs.IF, 5, block, 0);
        }
        Due.is("FOLD", x.pass(FOLD), 6 * 8);
        Due.is("the target's last block", Programs.codesOf(x, 1, 5),
                "0 0 0 1, 0 1 0 1, 0 2 0 1, 0 3 0 1, 0 4 0 1, 0 5 0 1, 0 0 0 2, 0 1 0 3");
        Due.is("the target's last end", Programs.endOf(x, 1, 5), "0 0 5 0");
        PassChecker y = full(add(5, 0, 1), add(4, 0, 1), add(5, 0, 1), add(4, 0, 1), add(5, 0, 1), add(4, 0, 1),
                add(5, 0, 1), add(4, 0, 1));
        Due.is("REUSE", y.pass(REUSE), 6 * 7);
        PassChecker z = full(constant(2, 1), constant(3, 1), constant(4, 1), constant(5, 1),
                code(Programs.MULTIPLY, 0, 0, 0), code(Programs.MULTIPLY, 0, 0, 0),
                code(Programs.MULTIPLY, 1, 1, 1), code(Programs.MULTIPLY, 1, 1, 1));
        Due.is("ORDER", z.pass(ORDER), 6 * 8);
        Due.is("the target's last block", Programs.codesOf(z, 1, 5),
                "4 0 0 0, 4 1 1 1, 4 0 0 0, 4 1 1 1, 0 2 0 1, 0 3 0 1, 0 4 0 1, 0 5 0 1");
    }

    private static void passLeavesTheSource() {
        Due.by("Promise 6", "The target becomes what a pass makes of the source: 0 FOLD, 1 REUSE, 2 ORDER");
        String[] want = {"0 2 0 6, 2 3 0 1, 0 4 0 36, 2 5 0 1", "0 2 0 6, 2 3 0 1, 4 4 2 2, 1 5 3 0",
            "0 2 0 6, 4 4 2 2, 2 3 0 1, 2 5 0 1"};
        int[] others = {1, 1, 2};
        for (int kind = 0; kind < 3; kind++) {
            PassChecker x = Programs.withSource(constant(2, 6), add(3, 0, 1), code(Programs.MULTIPLY, 4, 2, 2),
                    add(5, 0, 1));
            String source = Edges.programOf(x, 0);
            for (int i = 0; i < 2; i++) {
                Due.is("pass(" + kind + ")", x.pass(kind), others[kind]);
                Due.is("the target", Programs.codesOf(x, 1, 0), want[kind]);
                Due.is("the source", Edges.programOf(x, 0), source);
            }
        }
    }

    private static void passCountsPlaceByPlace() {
        Due.by("Promise 6", "how many instructions and ends are others than there (place by place).");
        int[] square = code(Programs.MULTIPLY, 5, 0, 0);
        due("an equal one stands at its place again", ORDER, codes(constant(2, 1), constant(2, 1), square), 2,
                square, constant(2, 1), constant(2, 1));
        PassChecker x = Programs.withSource(constant(0, 0));
        x.end(0, 0, Programs.IF, 0, 0, 0);
        Due.is("an end of which the kind alone is another", x.pass(FOLD), 1);
        x.end(0, 0, Programs.IF, 1, 0, 0);
        Due.is("an end that stays", x.pass(FOLD), 0);
    }

    private static void eachBlockByItself() {
        Due.by("Terms", "each block by itself");
        PassChecker x = Programs.withSource(constant(0, 1), add(2, 0, 1), load(3, 1));
        Programs.addBlock(x, 0, move(4, 0), add(5, 0, 1), load(4, 1));
        x.end(0, 0, Programs.GO, 0, 1, 0);
        x.end(0, 1, Programs.IF, 0, 2, 3);
        for (int kind = FOLD; kind <= REUSE; kind++) {
            Due.is("pass(" + kind + ")", x.pass(kind), 0);
            Due.is("the target", Edges.programOf(x, 1), Edges.programOf(x, 0));
        }
        PassChecker y = Programs.withSource(add(2, 0, 1));
        Programs.addBlock(y, 0, code(Programs.MULTIPLY, 3, 0, 1));
        Due.is("ORDER", y.pass(ORDER), 0);
        int[] quotient = code(Programs.DIVIDE, 5, 5, 5);
        PassChecker z = Programs.withSource(quotient, quotient, quotient);
        Programs.addBlock(z, 0, add(2, 0, 1), code(Programs.MULTIPLY, 3, 0, 1));
        Programs.addBlock(z, 0, code(Programs.MULTIPLY, 3, 0, 1), add(2, 0, 1));
        for (int i = 0; i < 2; i++) {
            Due.is("ORDER of three blocks", z.pass(ORDER), 2);
            Due.is("the target's block 1", Programs.codesOf(z, 1, 1), Programs.codesOf(z, 1, 2));
        }
    }

    private static void foldNotesConstants() {
        Due.by("Terms", "it is noted which registers have known numbers (of CONSTANT, or of what became one)");
        due("of CONSTANT", FOLD, codes(constant(0, Edges.LEAST), move(5, 0)), 1,
                constant(0, Edges.LEAST), constant(5, Edges.LEAST));
        due("of what became one", FOLD, codes(constant(0, Edges.GREATEST), move(5, 0), move(4, 5), add(3, 4, 5)), 3,
                constant(0, Edges.GREATEST), constant(5, Edges.GREATEST), constant(4, Edges.GREATEST),
                constant(3, -2));
        due("a MOVE onto itself", FOLD, codes(constant(0, 4), move(0, 0)), 1, constant(0, 4), constant(0, 4));
        due("the newest number", FOLD, codes(constant(0, 4), constant(0, 5), move(1, 0)), 1,
                constant(0, 4), constant(0, 5), constant(1, 5));
        due("its own result", FOLD, codes(constant(0, 4), add(0, 0, 0), add(0, 0, 0)), 2,
                constant(0, 4), constant(0, 8), constant(0, 16));
        dueSame("not before it", FOLD, move(1, 0), constant(0, 4));
    }

    private static void foldKeepsD() {
        Due.by("Terms", "become CONSTANT (D as it was, A 0, B the number)");
        for (int d : Edges.inside(6)) {
            due("a MOVE to " + d, FOLD, codes(constant(3, 9), move(d, 3)), 1, constant(3, 9), constant(d, 9));
            due("a sum to " + d, FOLD, codes(constant(3, 9), add(d, 3, 3)), 1, constant(3, 9), constant(d, 18));
        }
        PassChecker x = Programs.withSource(constant(3, 9), move(5, 3));
        x.pass(FOLD);
        Due.is("the fields of what became a CONSTANT", Programs.codesOf(x, 1, 0), "0 3 0 9, 0 5 0 9");
    }

    private static void foldNeedsKnownOnes() {
        Due.by("Terms", "a MOVE of a known one, and 2 .. 7 of two known ones");
        dueSame("a MOVE of one that is not known", FOLD, constant(0, 4), move(0, 1), move(2, 0));
        for (int operation = Programs.ADD; operation <= Programs.DIVIDE; operation++) {
            dueSame("A of " + operation + " is not known", FOLD, constant(0, 4), code(operation, 2, 1, 0));
            dueSame("B of " + operation + " is not known", FOLD, constant(0, 4), code(operation, 2, 0, 1));
            due("both of " + operation + " are known", FOLD, codes(constant(0, 1), code(operation, 2, 0, 0)), 1,
                    constant(0, 1), constant(2, new int[] {2, 0, 1, 1, 0, 1}[operation - 2]));
            dueSame("what " + operation + " made is not known", FOLD, constant(2, 4), code(operation, 2, 2, 1),
                    move(3, 2));
        }
        dueSame("LOAD and STORE stay", FOLD, constant(0, 4), load(1, 0), store(0, 0), move(2, 1));
        due("a STORE writes no register", FOLD, codes(constant(0, 4), store(1, 1), move(2, 0)), 1,
                constant(0, 4), store(1, 1), constant(2, 4));
    }

    private static void foldWrapsAround() {
        Due.by("Terms", "2 A + B, 3 A - B, 4 A * B (they wrap)");
        int[] most = constant(0, Edges.GREATEST);
        int[] least = constant(1, Edges.LEAST);
        int[] two = constant(2, 2);
        due("greatest + 2", FOLD, codes(most, two, add(3, 0, 2)), 1, most, two, constant(3, Edges.LEAST + 1));
        due("least - 2", FOLD, codes(least, two, code(Programs.SUBTRACT, 3, 1, 2)), 1, least, two,
                constant(3, Edges.GREATEST - 1));
        due("least * 2", FOLD, codes(least, two, code(Programs.MULTIPLY, 3, 1, 2)), 1, least, two, constant(3, 0));
        due("greatest * greatest", FOLD, codes(most, code(Programs.MULTIPLY, 3, 0, 0)), 1, most, constant(3, 1));
        due("least / -1", FOLD, codes(least, constant(2, -1), code(Programs.DIVIDE, 3, 1, 2)), 1, least,
                constant(2, -1), constant(3, Edges.LEAST));
        due("least is less than greatest", FOLD, codes(most, least, code(Programs.LESS, 3, 1, 0)), 1, most, least,
                constant(3, 1));
        due("greatest is not less than least", FOLD, codes(most, least, code(Programs.LESS, 3, 0, 1)), 1, most,
                least, constant(3, 0));
    }

    private static void foldNotByZero() {
        Due.by("Terms", "(not / by 0)");
        dueSame("7 / 0", FOLD, constant(0, 7), constant(1, 0), code(Programs.DIVIDE, 2, 0, 1), move(3, 2));
        dueSame("0 / 0", FOLD, constant(0, 0), code(Programs.DIVIDE, 0, 0, 0), move(3, 0));
        due("0 / 7", FOLD, codes(constant(0, 0), constant(1, 7), code(Programs.DIVIDE, 2, 0, 1)), 1,
                constant(0, 0), constant(1, 7), constant(2, 0));
        for (int divisor : new int[] {-1, 1}) {
            due("7 / " + divisor, FOLD, codes(constant(0, 7), constant(1, divisor), code(Programs.DIVIDE, 2, 0, 1)),
                    1, constant(0, 7), constant(1, divisor), constant(2, 7 * divisor));
        }
    }

    private static void dueFoldedEnd(String what, String want, int a, int[]... codes) {
        PassChecker x = Programs.withSource(codes);
        x.end(0, 0, Programs.IF, a, 4, 3);
        x.pass(FOLD);
        Due.is(what, Programs.endOf(x, 1, 0), want);
        Due.is(what + ", the source's end", Programs.endOf(x, 0, 0), "1 " + a + " 4 3");
    }

    private static void foldOfIf() {
        Due.by("Terms", "an IF of a register that is known at the end becomes GO (X where it goes, A and Y 0)");
        for (int number : new int[] {1, -1, Edges.LEAST, Edges.GREATEST}) {
            dueFoldedEnd("IF of " + number, "0 0 4 0", 5, constant(5, number));
        }
        dueFoldedEnd("IF of 0", "0 0 3 0", 5, constant(5, 0));
        dueFoldedEnd("IF of what wrapped around to 0", "0 0 3 0", 5, constant(5, Edges.LEAST), add(5, 5, 5));
        for (int a = 0; a < 6; a++) {
            dueFoldedEnd("IF of register " + a + " without instructions", "1 " + a + " 4 3", a);
        }
        PassChecker x = Programs.withSource(constant(5, 1));
        x.end(0, 0, Programs.RETURN, 5, 0, 0);
        Due.is("RETURN stays", x.pass(FOLD) + ": " + Programs.endOf(x, 1, 0), "0: 2 5 0 0");
        x.end(0, 0, Programs.GO, 0, 5, 0);
        Due.is("GO stays", x.pass(FOLD) + ": " + Programs.endOf(x, 1, 0), "0: 0 0 5 0");
    }

    private static void foldOfIfAtTheEnd() {
        Due.by("Terms", "an IF of a register that is known at the end becomes GO");
        dueFoldedEnd("known before, not at the end", "1 5 4 3", 5, constant(5, 1), move(5, 0));
        dueFoldedEnd("loaded at the end", "1 5 4 3", 5, constant(5, 1), load(5, 5));
        dueFoldedEnd("/ by 0 at the end", "1 5 4 3", 5, constant(5, 0), code(Programs.DIVIDE, 5, 5, 5));
        dueFoldedEnd("not known before", "0 0 4 0", 5, load(5, 5), constant(5, 1));
        dueFoldedEnd("0 at the end", "0 0 3 0", 5, constant(5, 1), code(Programs.SUBTRACT, 5, 5, 5));
        dueFoldedEnd("another register is known", "1 4 4 3", 4, constant(5, 1));
    }

    private static void reuseOfTwoToEight() {
        Due.by("Terms", "REUSE: an operation 2 .. 8 that was done before in the block");
        for (int operation = Programs.ADD; operation <= Programs.LOAD; operation++) {
            due("operation " + operation, REUSE, codes(code(operation, 2, 0, 1), code(operation, 3, 0, 1)), 1,
                    code(operation, 2, 0, 1), move(3, 2));
            dueSame("operation " + operation + " once", REUSE, code(operation, 3, 0, 1));
        }
        dueSame("CONSTANT", REUSE, constant(2, 5), constant(3, 5));
        dueSame("MOVE", REUSE, move(2, 1), move(3, 1));
        dueSame("STORE", REUSE, store(0, 1), store(0, 1));
        dueSame("before, not behind", REUSE, add(2, 0, 1), code(Programs.SUBTRACT, 3, 0, 1));
    }

    private static void reuseOfTheSameRegisters() {
        Due.by("Terms", "with the same registers A and B (8: A)");
        for (int operation = Programs.ADD; operation <= Programs.DIVIDE; operation++) {
            dueSame("another A of " + operation, REUSE, code(operation, 4, 0, 1), code(operation, 5, 2, 1));
            dueSame("another B of " + operation, REUSE, code(operation, 4, 0, 1), code(operation, 5, 0, 2));
        }
        dueSame("another A of LOAD", REUSE, load(4, 0), load(5, 1));
        due("LOAD has no B", REUSE, codes(load(4, 1), constant(0, 3), load(5, 1)), 1, load(4, 1), constant(0, 3),
                move(5, 4));
        Due.by("Terms", "(A + B and B + A are two different ones.)");
        for (int operation = Programs.ADD; operation <= Programs.DIVIDE; operation++) {
            dueSame("A and B of " + operation + " the other way round", REUSE, code(operation, 4, 0, 1),
                    code(operation, 5, 1, 0));
        }
    }

    private static void reuseNotOfWrittenOnes() {
        Due.by("Terms", "which have not been written since");
        int[] sum = add(4, 0, 1);
        for (int written = 0; written < 2; written++) {
            dueSame(written + " written by CONSTANT", REUSE, sum, constant(written, 1), add(5, 0, 1));
            dueSame(written + " written by MOVE onto itself", REUSE, sum, move(written, written), add(5, 0, 1));
            dueSame(written + " written by LOAD", REUSE, sum, load(written, 3), add(5, 0, 1));
            dueSame(written + " written by /", REUSE, sum, code(Programs.DIVIDE, written, 3, 3), add(5, 0, 1));
        }
        due("others written", REUSE, codes(sum, constant(2, 1), constant(3, 1), add(5, 0, 1)), 1, sum,
                constant(2, 1), constant(3, 1), move(5, 4));
        due("written before, not since", REUSE, codes(constant(0, 1), constant(1, 1), sum, add(5, 0, 1)), 1,
                constant(0, 1), constant(1, 1), sum, move(5, 4));
        due("a STORE writes no register", REUSE, codes(sum, store(0, 1), add(5, 0, 1)), 1, sum, store(0, 1),
                move(5, 4));
        due("the new one itself writes A", REUSE, codes(sum, add(0, 0, 1)), 1, sum, move(0, 4));
        due("the new one itself writes B", REUSE, codes(sum, add(1, 0, 1)), 1, sum, move(1, 4));
        dueSame("the place of a LOAD", REUSE, load(4, 0), constant(0, 1), load(5, 0));
    }

    private static void reuseNotOfWhatItWrites() {
        Due.by("Terms", "nor by it");
        for (int operation = Programs.ADD; operation <= Programs.DIVIDE; operation++) {
            dueSame(operation + " wrote its A", REUSE, code(operation, 0, 0, 1), code(operation, 5, 0, 1));
            dueSame(operation + " wrote its B", REUSE, code(operation, 1, 0, 1), code(operation, 5, 0, 1));
            dueSame(operation + " wrote both", REUSE, code(operation, 1, 1, 1), code(operation, 5, 1, 1));
        }
        dueSame("LOAD wrote its place", REUSE, load(1, 1), load(5, 1));
        due("the next one did not", REUSE, codes(add(0, 0, 1), add(4, 0, 1), add(5, 0, 1)), 1, add(0, 0, 1),
                add(4, 0, 1), move(5, 4));
    }

    private static void reuseNotPastAStore() {
        Due.by("Terms", "(8: nor has there been a STORE)");
        dueSame("a STORE between", REUSE, load(4, 0), store(1, 1), load(5, 0));
        dueSame("a STORE of it at its place", REUSE, load(4, 0), store(0, 4), load(5, 0));
        due("a STORE before", REUSE, codes(store(1, 1), load(4, 0), load(5, 0)), 1, store(1, 1), load(4, 0),
                move(5, 4));
        due("a STORE behind", REUSE, codes(load(4, 0), load(5, 0), store(1, 1)), 1, load(4, 0), move(5, 4),
                store(1, 1));
        for (int operation = Programs.ADD; operation <= Programs.DIVIDE; operation++) {
            due("a STORE between two of " + operation, REUSE,
                    codes(code(operation, 4, 0, 1), store(1, 1), code(operation, 5, 0, 1)), 1,
                    code(operation, 4, 0, 1), store(1, 1), move(5, 4));
        }
    }

    private static void reuseNotOfAWrittenResult() {
        Due.by("Terms", "becomes MOVE (A the register that became it then, B 0), if that has not been written"
                + " since either");
        dueSame("written by CONSTANT", REUSE, add(4, 0, 1), constant(4, 1), add(5, 0, 1));
        dueSame("written by MOVE onto itself", REUSE, add(4, 0, 1), move(4, 4), add(5, 0, 1));
        dueSame("written by LOAD", REUSE, add(4, 0, 1), load(4, 3), add(5, 0, 1));
        due("the new one itself writes it", REUSE, codes(add(4, 0, 1), add(4, 0, 1)), 1, add(4, 0, 1), move(4, 4));
        due("register 0, with which a STORE is written too", REUSE, codes(add(0, 1, 2), store(1, 2), add(5, 1, 2)),
                1, add(0, 1, 2), store(1, 2), move(5, 0));
    }

    private static void reuseOfTheFirst() {
        Due.by("Terms", "of several the first one");
        due("of three", REUSE, codes(add(3, 0, 1), add(4, 0, 1), add(5, 0, 1)), 2, add(3, 0, 1), move(4, 3),
                move(5, 3));
        due("of those that hold still", REUSE, codes(add(3, 0, 1), add(4, 0, 1), constant(3, 1), add(5, 0, 1)), 2,
                add(3, 0, 1), move(4, 3), constant(3, 1), move(5, 4));
        due("the one before was written over by the next", REUSE,
                codes(add(3, 0, 1), add(3, 0, 1), add(5, 0, 1)), 2, add(3, 0, 1), move(3, 3), move(5, 3));
    }

    private static void reuseOfAFullBlock() {
        Due.by("Terms", "REUSE: an operation 2 .. 8 that was done before in the block");
        due("the first and the last of eight", REUSE,
                codes(add(5, 0, 1), constant(2, 1), constant(2, 2), constant(2, 3), constant(2, 4), constant(2, 5),
                        constant(2, 6), add(4, 0, 1)), 1,
                add(5, 0, 1), constant(2, 1), constant(2, 2), constant(2, 3), constant(2, 4), constant(2, 5),
                constant(2, 6), move(4, 5));
    }

    /** Whether a * behind something that takes less must stay behind it. */
    private static void dueDepends(String what, boolean depends, int[] earlier, int[] product) {
        if (depends) {
            dueSame(what, ORDER, earlier, product);
        } else {
            due(what, ORDER, codes(earlier, product), 2, product, earlier);
        }
    }

    private static void orderDepends() {
        Due.by("Terms", "an instruction DEPENDS on an earlier one if one of them writes a register that the other one"
                + " reads or writes");
        for (int register = 0; register < 6; register++) {
            int[] product = code(Programs.MULTIPLY, register, 4, 5);
            boolean oneOrThree = register == 1 || register == 3;
            dueDepends("3 = 1 + 2, then " + register + " written", oneOrThree || register == 2, add(3, 1, 2), product);
            dueDepends("STORE of 1 and 2, then " + register + " written", register == 1 || register == 2, store(1, 2),
                    product);
            dueDepends("MOVE of 1 to 3, then " + register + " written", oneOrThree, move(3, 1), product);
            dueDepends("LOAD of 1 to 3, then " + register + " written", oneOrThree, load(3, 1), product);
            dueDepends("CONSTANT 1 to 3, then " + register + " written", register == 3, constant(3, 1), product);
            dueDepends(register + " written, then 3 = 4 * 5", register >= 3, constant(register, 0),
                    code(Programs.MULTIPLY, 3, 4, 5));
        }
    }

    /** The second one has the greater height by far: it comes first if it may. */
    private static void orderOfSevenToNine() {
        Due.by("Terms", "or if both are of 7, 8, 9");
        int[] product = code(Programs.MULTIPLY, 4, 4, 4);
        for (int one = 0; one < 10; one++) {
            for (int other = 0; other < 10; other++) {
                int[] first = code(one, 0, 2, 3);
                int[] second = code(other, 4, 4, 5);
                PassChecker x = Programs.withSource(first, second, product, product);
                x.pass(ORDER);
                boolean depends = one >= Programs.DIVIDE && other >= Programs.DIVIDE;
                Due.is("what comes first of " + one + " and " + other, Programs.codesOf(x, 1, 0).split(", ")[0],
                        textOf(depends ? first : second));
            }
        }
        for (int one = Programs.DIVIDE; one <= Programs.STORE; one++) {
            for (int other = Programs.DIVIDE; other <= Programs.STORE; other++) {
                dueSame(one + " before " + other, ORDER, code(one, 0, 2, 3), code(other, 1, 4, 5));
            }
        }
    }

    private static int takes(int operation) {
        return new int[] {1, 1, 1, 1, 3, 1, 1, 4, 2, 1}[operation];
    }

    /** A chain of n that take 1 has the heights n .. 1: those that are higher than the one tried come before it. */
    private static void orderTakes() {
        Due.by("Terms", "Its HEIGHT is what it takes (4: 3, 7: 4, 8: 2, others 1)");
        for (int operation = 0; operation < 10; operation++) {
            for (int chain = 1; chain < 6; chain++) {
                int higher = Math.max(0, chain - takes(operation));
                int asHigh = Math.max(0, chain - takes(operation) + 1);
                dueAtPlace(operation, 0, chain, higher);
                dueAtPlace(operation, chain, 0, asHigh);
            }
        }
    }

    /** Of equal heights the first comes first: it counts whether the chain stands before the one tried or behind it. */
    private static void dueAtPlace(int operation, int before, int behind, int want) {
        PassChecker x = new PassChecker();
        x.block(0);
        for (int i = 0; i < before; i++) {
            x.code(0, 0, Programs.MOVE, 4, 4, 0);
        }
        x.code(0, 0, operation, 5, 1, 1);
        for (int i = 0; i < behind; i++) {
            x.code(0, 0, Programs.MOVE, 4, 4, 0);
        }
        x.pass(ORDER);
        String at = Programs.codesOf(x, 1, 0).split(", ")[want];
        Due.is(operation + " with " + before + " before it and " + behind + " behind it, at place " + want, at,
                textOf(code(operation, 5, 1, 1)));
    }

    private static void orderGreatestOfThoseThatDepend() {
        Due.by("Terms", "and the greatest height of those that depend on it");
        int[] square = code(Programs.MULTIPLY, 5, 2, 2);
        int[] low = constant(3, 1);
        due("a chain", ORDER, codes(low, constant(2, 2), square), 3, constant(2, 2), square, low);
        due("the greatest, not the sum", ORDER,
                codes(constant(2, 2), move(3, 2), move(4, 2), move(5, 2), code(Programs.MULTIPLY, 0, 0, 0)), 5,
                code(Programs.MULTIPLY, 0, 0, 0), constant(2, 2), move(3, 2), move(4, 2), move(5, 2));
        due("the greatest, not the last", ORDER,
                codes(load(4, 4), constant(2, 2), code(Programs.MULTIPLY, 3, 2, 2), move(5, 2)), 3,
                constant(2, 2), code(Programs.MULTIPLY, 3, 2, 2), load(4, 4), move(5, 2));
        due("a chain over one between", ORDER, codes(code(Programs.MULTIPLY, 0, 0, 0), constant(2, 1), move(3, 2),
                move(4, 3), move(5, 4)), 2,
                constant(2, 1), code(Programs.MULTIPLY, 0, 0, 0), move(3, 2), move(4, 3), move(5, 4));
    }

    private static void orderOfEqualOnes() {
        Due.by("Terms", "the one with the greatest height comes next, of equal ones the first");
        dueSame("eight equal ones", ORDER, constant(5, 1), constant(5, 1), constant(5, 1), constant(5, 1),
                constant(5, 1), constant(5, 1), constant(5, 1), constant(5, 1));
        dueSame("six of height 1", ORDER, constant(5, 1), constant(3, 2), constant(4, 3), constant(0, 4),
                constant(2, 5), constant(1, 6));
        dueSame("two chains of height 2 one after the other by turns", ORDER, constant(0, 1), constant(1, 1),
                move(0, 0), move(1, 1));
        due("two chains of height 2", ORDER, codes(constant(0, 1), move(0, 0), constant(1, 1), move(1, 1)), 2,
                constant(0, 1), constant(1, 1), move(0, 0), move(1, 1));
    }

    private static void orderOfThoseThatAreLeft() {
        Due.by("Terms", "Again and again, of those that depend on none that is left");
        int[] quotient = code(Programs.DIVIDE, 5, 4, 4);
        due("a high one waits for what it depends on", ORDER,
                codes(constant(0, 1), code(Programs.MULTIPLY, 1, 1, 1), constant(4, 1), quotient), 4,
                constant(4, 1), quotient, code(Programs.MULTIPLY, 1, 1, 1), constant(0, 1));
        due("what came to be free comes before lower ones", ORDER,
                codes(code(Programs.MULTIPLY, 0, 0, 0), constant(1, 1), move(2, 0), move(3, 2)), 2,
                code(Programs.MULTIPLY, 0, 0, 0), move(2, 0), constant(1, 1), move(3, 2));
    }

    private static void orderOfAFullBlock() {
        Due.by("Terms", "Again and again, of those that depend on none that is left");
        int[] high = code(Programs.DIVIDE, 5, 5, 5);
        due("the last of eight comes first", ORDER,
                codes(constant(0, 1), constant(1, 1), constant(2, 1), constant(3, 1), constant(4, 1), move(0, 1),
                        move(1, 2), high), 8,
                high, constant(0, 1), constant(1, 1), constant(2, 1), move(0, 1), constant(3, 1), constant(4, 1),
                move(1, 2));
        dueSame("eight /", ORDER, high, high, high, high, high, high, high, high);
    }

    private static void takeOfNothing() {
        Due.by("Promise 7", "The source becomes as the target.");
        PassChecker x = Edges.busy();
        x.wipe(1);
        x.take();
        Due.is("blocks", Edges.blocksOf(x, 0) + Edges.blocksOf(x, 1), 0);
        Due.is("block(0)", x.block(0), 0);
        Due.is("the new block", Edges.programOf(x, 0), "[ | 2 0 0 0] ");
        PassChecker y = new PassChecker();
        y.take();
        Due.is("blocks of a new object", Edges.blocksOf(y, 0) + Edges.blocksOf(y, 1), 0);
    }

    private static void takeOfAFullProgram() {
        Due.by("Promise 7", "The source becomes as the target.");
        PassChecker x = Programs.withSource(add(0, 0, 0));
        for (int block = 0; block < 6; block++) {
            Programs.addBlock(x, 1, constant(block, Edges.LEAST), add(1, 2, 3), store(block, 5));
            x.end(1, block, Programs.IF, block, 5 - block, block);
        }
        String target = Edges.programOf(x, 1);
        x.take();
        Due.is("the source", Edges.programOf(x, 0), target);
        Due.is("the target", Edges.programOf(x, 1), target);
        Due.fails("the seventh block", Edges.STATE, () -> x.block(0));
    }

    private static void takeIsACopy() {
        Due.by("Promise 7", "The source becomes as the target.");
        PassChecker x = Edges.busy();
        x.take();
        String before = Edges.programOf(x, 1);
        x.code(0, 0, Programs.ADD, 1, 1, 1);
        x.end(0, 0, Programs.GO, 0, 3, 0);
        x.block(0);
        Due.is("the target behind a change of the source", Edges.programOf(x, 1), before);
        String source = Edges.programOf(x, 0);
        x.wipe(1);
        x.block(1);
        x.code(1, 0, Programs.STORE, 0, 1, 1);
        Due.is("the source behind a change of the target", Edges.programOf(x, 0), source);
    }
}
