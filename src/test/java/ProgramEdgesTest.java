/** The edges that the document names, sentence by sentence: promises 1 to 5, 8 and 9. */
public final class ProgramEdgesTest {
    private static final int[] USE_D = {1, 1, 1, 1, 1, 1, 1, 1, 1, 0};
    private static final int[] USE_A = {0, 1, 1, 1, 1, 1, 1, 1, 1, 1};
    private static final int[] USE_B = {0, 0, 1, 1, 1, 1, 1, 1, 0, 1};

    public static void main(String[] args) {
        aNewObject();
        aNewObjectIsItsOwn();
        callsUpToTheLast();
        blockCountsFromZero();
        blockOfNoProgram();
        blockOfAFullProgram();
        aBlocksFirstEnd();
        codeCountsFromZero();
        codeOfNoProgramOrBlock();
        codeOfNoOperation();
        codeOfNoRegister();
        codeOfRegistersThatAreNotUsed();
        codeInAFullBlock();
        codeInAFullProgram();
        codeLooksForItsFaultsInOrder();
        codeClearsFields();
        endOfNoProgramOrBlock();
        endOfNoKind();
        endOfNoRegister();
        endOfNoGoal();
        endWithAGoalThatIsNotThere();
        endClearsFields();
        endWritesOver();
        wipeLeavesNothing();
        wipeOfAnEmptyProgram();
        wipeOfNoProgram();
        instructionFields();
        instructionThatIsNotThere();
        instructionOfNoWhat();
        endingFields();
        endingThatIsNotThere();
        endingOfNoWhat();
        Due.finish();
    }

    private static int[] code(int operation, int d, int a, int b) {
        return Programs.code(operation, d, a, b);
    }

    private static PassChecker withFullPrograms() {
        PassChecker x = new PassChecker();
        for (int i = 0; i < 6; i++) {
            x.block(0);
            x.block(1);
        }
        return x;
    }

    private static PassChecker withFullBlock() {
        PassChecker x = new PassChecker();
        x.block(0);
        x.block(0);
        for (int i = 0; i < 8; i++) {
            x.code(0, 1, Programs.ADD, i % 6, 0, 5);
        }
        return x;
    }

    private static void aNewObject() {
        Due.by("Promise 1", "Two programs without blocks; no check, no run.");
        PassChecker x = new PassChecker();
        Due.is("all that can be read", Edges.stateOf(x),
                "program 0: program 1: refused -1 -1 -1 returned 0 steps 0 words 0 0 0 0 0 0 0 0");
        for (int program = 0; program < 2; program++) {
            int of = program;
            Due.fails("code in block 0 of " + of, Edges.INDEX, () -> x.code(of, 0, 0, 0, 0, 0));
            Due.fails("end of block 0 of " + of, Edges.INDEX, () -> Edges.end(of, 0, 2, 0, 0, 0).apply(x));
            Due.fails("instruction of block 0 of " + of, Edges.INDEX, () -> x.instruction(of, 0, 0, 0));
            Due.fails("effects of block 0 of " + of, Edges.INDEX, () -> x.effects(of, 0));
        }
        Due.fails("same of blocks 0", Edges.INDEX, () -> x.same(0, 0, 0, 0));
    }

    private static void aNewObjectIsItsOwn() {
        Due.by("Promise 1", "Two programs without blocks; no check, no run.");
        PassChecker busy = Edges.busy();
        String before = Edges.stateOf(busy);
        PassChecker x = new PassChecker();
        Due.is("all that can be read beside a busy object", Edges.stateOf(x), Edges.stateOf(new PassChecker()));
        x.block(0);
        x.check();
        x.run(0, 5, 5, 5);
        Due.is("all that can be read of the busy object", Edges.stateOf(busy), before);
    }

    private static void callsUpToTheLast() {
        Due.by("What it is", "An object is used for at most 512 calls after it has been made");
        PassChecker x = new PassChecker();
        int calls = 0;
        for (int i = 0; i < 42; i++) {
            x.block(0);
            x.code(0, 0, Programs.CONSTANT, 2, 0, i);
            x.code(0, 0, Programs.ADD, 3, 0, 1);
            x.code(0, 0, Programs.MOVE, 3, 2, 0);
            x.end(0, 0, Programs.IF, 3, 0, 1);
            x.pass(i % 3);
            x.check();
            x.same(0, 3, 0, 3);
            x.effects(0, 0);
            x.run(1, 1, 2, 500);
            x.wipe(i % 2);
            x.wipe(1 - i % 2);
            calls += 12;
        }
        x.block(1);
        x.code(1, 0, Programs.STORE, 0, 1, 0);
        x.end(1, 0, Programs.RETURN, 1, 0, 0);
        calls += 3;
        Due.is("call 508, run", x.run(1, 8, 7, 2), 1);
        Due.is("call 509, returned", x.returned(), 7);
        Due.is("call 510, steps", x.steps(), 2);
        Due.fails("call 511, check", Edges.UNSUPPORTED, x::check);
        Due.is("call 512, word", x.word(7), 8);
        Due.is("calls", calls + 5, 512);
    }

    private static void blockCountsFromZero() {
        Due.by("Promise 2", "A new block of a program (0 or 1): its number.");
        PassChecker x = new PassChecker();
        for (int block = 0; block < 6; block++) {
            Due.is("block(0)", x.block(0), block);
            Due.is("blocks of the source", Edges.blocksOf(x, 0), block + 1);
            Due.is("blocks of the target", Edges.blocksOf(x, 1), 0);
        }
        for (int block = 0; block < 6; block++) {
            Due.is("block(1)", x.block(1), block);
            Due.is("blocks of the target", Edges.blocksOf(x, 1), block + 1);
        }
        Due.is("blocks of the source", Edges.blocksOf(x, 0), 6);
    }

    private static void blockOfNoProgram() {
        Due.by("Promise 2", "IndexOutOfBoundsException if there is no such program");
        for (int program : Edges.outside(2)) {
            Edges.refuses("block(" + program + ")", Edges.INDEX, x -> x.block(program));
            Edges.refuses("block(" + program + ") with full programs", Edges.INDEX,
                    ProgramEdgesTest::withFullPrograms, x -> x.block(program));
        }
    }

    private static void blockOfAFullProgram() {
        Due.by("Promise 2", "IllegalStateException if it has 6.");
        for (int program = 0; program < 2; program++) {
            int of = program;
            Edges.refuses("the seventh block(" + of + ")", Edges.STATE, ProgramEdgesTest::withFullPrograms,
                    x -> x.block(of));
            PassChecker x = withFullPrograms();
            x.wipe(1 - of);
            Due.fails("the seventh block(" + of + "), the other one empty", Edges.STATE, () -> x.block(of));
            Due.is("block of the other one", x.block(1 - of), 0);
            x.wipe(of);
            for (int block = 0; block < 6; block++) {
                Due.is("block(" + of + ") behind wipe", x.block(of), block);
            }
            Due.fails("the seventh behind wipe", Edges.STATE, () -> x.block(of));
        }
    }

    private static void aBlocksFirstEnd() {
        Due.by("Terms", "A block's end is at first RETURN of register 0.");
        for (int program = 0; program < 2; program++) {
            PassChecker x = new PassChecker();
            for (int round = 0; round < 2; round++) {
                for (int block = 0; block < 6; block++) {
                    x.block(program);
                    Due.is("a new block", x.ending(program, block, 4) + ": " + Programs.endOf(x, program, block),
                            "0: 2 0 0 0");
                    x.end(program, block, Programs.IF, 5, 4, 3);
                    x.code(program, block, Programs.ADD, 1, 2, 3);
                }
                x.wipe(program);
            }
        }
        PassChecker x = new PassChecker();
        for (int block = 0; block < 2; block++) {
            Programs.addBlock(x, 1, code(Programs.ADD, 1, 2, 3));
            x.end(1, block, Programs.IF, 5, 4, 3);
        }
        x.pass(0);
        x.block(1);
        Due.is("a new block behind a pass of nothing", Edges.programOf(x, 1), "[ | 2 0 0 0] ");
    }

    private static void codeCountsFromZero() {
        Due.by("Promise 3", "An instruction more in a block: its number.");
        for (int program = 0; program < 2; program++) {
            PassChecker x = withFullPrograms();
            for (int i = 0; i < 8; i++) {
                for (int block : Edges.inside(6)) {
                    Due.is("code in block " + block, x.code(program, block, Programs.MOVE, i % 6, 5, 0), i);
                    Due.is("length of block " + block, x.ending(program, block, 4), i + 1);
                }
            }
            Due.is("length of block 1", x.ending(program, 1, 4), 0);
            Due.is("length of block 4", x.ending(program, 4, 4), 0);
            Due.is("length of the other one's block 0", x.ending(1 - program, 0, 4), 0);
        }
    }

    private static void codeOfNoProgramOrBlock() {
        Due.by("Promise 3", "IndexOutOfBoundsException if there is no such program or block");
        for (int program : Edges.outside(2)) {
            Edges.refuses("code(" + program + ", 0, ..)", Edges.INDEX, x -> x.code(program, 0, 2, 0, 0, 0));
        }
        for (int block : Edges.outside(2)) {
            Edges.refuses("code(0, " + block + ", ..)", Edges.INDEX, x -> x.code(0, block, 2, 0, 0, 0));
        }
        Edges.refuses("code(1, 1, ..), the source's alone", Edges.INDEX, x -> x.code(1, 1, 2, 0, 0, 0));
        for (int block : Edges.outside(6)) {
            Edges.refuses("code(1, " + block + ", ..) of full programs", Edges.INDEX,
                    ProgramEdgesTest::withFullPrograms, x -> x.code(1, block, 2, 0, 0, 0));
        }
        PassChecker wiped = Edges.busy();
        wiped.wipe(0);
        Due.fails("code(0, 0, ..) behind wipe", Edges.INDEX, () -> wiped.code(0, 0, 2, 0, 0, 0));
    }

    private static void codeOfNoOperation() {
        Due.by("Promise 3", "IllegalArgumentException if there is no such operation");
        for (int operation : Edges.outside(10)) {
            Edges.refuses("operation " + operation, Edges.ARGUMENT, x -> x.code(0, 0, operation, 0, 0, 0));
        }
        for (int operation : Edges.inside(10)) {
            Due.is("operation " + operation, Edges.busy().code(0, 0, operation, 0, 0, 0), 2);
        }
    }

    private static void codeOfNoRegister() {
        Due.by("Promise 3", "or a register that it uses (D too, not of STORE; not A of CONSTANT, B of CONSTANT,"
                + " MOVE and LOAD) is not 0 .. 5");
        for (int operation = 0; operation < 10; operation++) {
            int of = operation;
            for (int wrong : Edges.outside(6)) {
                String call = "operation " + of + " with register " + wrong;
                if (USE_D[of] == 1) {
                    Edges.refuses(call + " as D", Edges.ARGUMENT, x -> x.code(0, 0, of, wrong, 0, 0));
                }
                if (USE_A[of] == 1) {
                    Edges.refuses(call + " as A", Edges.ARGUMENT, x -> x.code(0, 0, of, 0, wrong, 0));
                }
                if (USE_B[of] == 1) {
                    Edges.refuses(call + " as B", Edges.ARGUMENT, x -> x.code(0, 0, of, 0, 0, wrong));
                }
            }
            for (int right : Edges.inside(6)) {
                Due.is("operation " + of + " with registers " + right,
                        Edges.busy().code(0, 0, of, right, right, right), 2);
            }
        }
    }

    private static void codeOfRegistersThatAreNotUsed() {
        Due.by("Promise 3", "(D too, not of STORE; not A of CONSTANT, B of CONSTANT, MOVE and LOAD)");
        for (int any : Edges.outside(6)) {
            PassChecker x = Programs.withSource();
            Due.is("D of STORE is " + any, x.code(0, 0, Programs.STORE, any, 5, 4), 0);
            Due.is("A of CONSTANT is " + any, x.code(0, 0, Programs.CONSTANT, 5, any, 4), 1);
            Due.is("B of CONSTANT is " + any, x.code(0, 0, Programs.CONSTANT, 5, 0, any), 2);
            Due.is("B of MOVE is " + any, x.code(0, 0, Programs.MOVE, 5, 4, any), 3);
            Due.is("B of LOAD is " + any, x.code(0, 0, Programs.LOAD, 5, 4, any), 4);
            Due.is("codes", Programs.codesOf(x, 0, 0), "9 0 5 4, 0 5 0 4, 0 5 0 " + any + ", 1 5 4 0, 8 5 4 0");
        }
    }

    private static void codeInAFullBlock() {
        Due.by("Promise 3", "IllegalStateException if there are 8.");
        for (int operation = 0; operation < 10; operation++) {
            int of = operation;
            Edges.refuses("the ninth, operation " + of, Edges.STATE, ProgramEdgesTest::withFullBlock,
                    x -> x.code(0, 1, of, 0, 0, 0));
        }
        PassChecker x = withFullBlock();
        Due.is("code in the block beside", x.code(0, 0, Programs.ADD, 0, 0, 0), 0);
        Due.is("a block more", x.block(0), 2);
        Due.is("code in the block behind", x.code(0, 2, Programs.ADD, 0, 0, 0), 0);
        x.wipe(0);
        x.block(0);
        x.block(0);
        for (int i = 0; i < 8; i++) {
            Due.is("code behind wipe", x.code(0, 1, Programs.ADD, 0, 0, 0), i);
        }
        Due.fails("the ninth behind wipe", Edges.STATE, () -> x.code(0, 1, Programs.ADD, 0, 0, 0));
    }

    /** No instruction or end may stand where another one does. */
    private static void codeInAFullProgram() {
        Due.by("Terms", "A PROGRAM has at most 6 BLOCKS 0, 1, .. (0 is the first one), each with at most 8"
                + " INSTRUCTIONS, and an END.");
        PassChecker x = withFullPrograms();
        for (int block = 0; block < 6; block++) {
            for (int i = 0; i < 8; i++) {
                x.code(1, block, Programs.CONSTANT, block, 0, 10 * block + i);
            }
            x.end(1, block, Programs.IF, block, 5 - block, block);
        }
        for (int block = 0; block < 6; block++) {
            for (int i = 0; i < 8; i++) {
                Due.is("B of " + i + " in " + block, x.instruction(1, block, i, 3), 10 * block + i);
                Due.is("D of " + i + " in " + block, x.instruction(1, block, i, 1), block);
            }
            Due.is("end of " + block, Programs.endOf(x, 1, block), "1 " + block + " " + (5 - block) + " " + block);
        }
    }

    private static void codeLooksForItsFaultsInOrder() {
        Due.by("Promise 3", "throws IndexOutOfBoundsException, IllegalArgumentException, IllegalStateException");
        Edges.refuses("no program, block or operation", Edges.INDEX, x -> x.code(2, 9, 10, 6, 6, 6));
        Edges.refuses("no block or operation", Edges.INDEX, x -> x.code(0, 2, 10, 6, 6, 6));
        Edges.refuses("no operation in a full block", Edges.ARGUMENT, ProgramEdgesTest::withFullBlock,
                x -> x.code(0, 1, 10, 0, 0, 0));
        Edges.refuses("no D in a full block", Edges.ARGUMENT, ProgramEdgesTest::withFullBlock,
                x -> x.code(0, 1, 0, 6, 0, 0));
        Edges.refuses("no A in a full block", Edges.ARGUMENT, ProgramEdgesTest::withFullBlock,
                x -> x.code(0, 1, 1, 0, 6, 0));
        Edges.refuses("no B in a full block", Edges.ARGUMENT, ProgramEdgesTest::withFullBlock,
                x -> x.code(0, 1, 9, 0, 0, 6));
    }

    private static void codeClearsFields() {
        Due.by("Promise 3", "Fields that it does not use become 0.");
        for (int operation = 0; operation < 10; operation++) {
            PassChecker x = Programs.withSource();
            x.code(0, 0, operation, 3, 4, 5);
            int b = operation == Programs.CONSTANT ? 5 : 5 * USE_B[operation];
            Due.is("operation " + operation + " with 3, 4, 5", Programs.codesOf(x, 0, 0),
                    operation + " " + 3 * USE_D[operation] + " " + 4 * USE_A[operation] + " " + b);
        }
    }

    private static void endOfNoProgramOrBlock() {
        Due.by("Promise 4", "IndexOutOfBoundsException if there is no such program or block");
        for (int program : Edges.outside(2)) {
            Edges.refuses("end(" + program + ", 0, ..)", Edges.INDEX, Edges.end(program, 0, 2, 0, 0, 0));
            Edges.refuses("end(" + program + ", 0, 3, ..)", Edges.INDEX, Edges.end(program, 0, 3, 6, 6, 6));
        }
        for (int block : Edges.outside(2)) {
            Edges.refuses("end(0, " + block + ", ..)", Edges.INDEX, Edges.end(0, block, 2, 0, 0, 0));
            Edges.refuses("end(0, " + block + ", 3, ..)", Edges.INDEX, Edges.end(0, block, 3, 6, 6, 6));
        }
        Edges.refuses("end(1, 1, ..), the source's alone", Edges.INDEX, Edges.end(1, 1, 2, 0, 0, 0));
        for (int block : Edges.outside(6)) {
            Edges.refuses("end(0, " + block + ", ..) of full programs", Edges.INDEX,
                    ProgramEdgesTest::withFullPrograms, Edges.end(0, block, 2, 0, 0, 0));
        }
    }

    private static void endOfNoKind() {
        Due.by("Promise 4", "IllegalArgumentException if there is no such kind");
        for (int kind : Edges.outside(3)) {
            Edges.refuses("kind " + kind, Edges.ARGUMENT, Edges.end(0, 0, kind, 0, 0, 0));
        }
    }

    private static void endOfNoRegister() {
        Due.by("Promise 4", "A (of IF and RETURN) is not 0 .. 5");
        for (int wrong : Edges.outside(6)) {
            Edges.refuses("IF of " + wrong, Edges.ARGUMENT, Edges.end(0, 0, Programs.IF, wrong, 0, 0));
            Edges.refuses("RETURN of " + wrong, Edges.ARGUMENT, Edges.end(0, 0, Programs.RETURN, wrong, 0, 0));
            PassChecker x = Edges.busy();
            x.end(0, 0, Programs.GO, wrong, 5, 0);
            Due.is("GO with A " + wrong, Programs.endOf(x, 0, 0), "0 0 5 0");
        }
        for (int right : Edges.inside(6)) {
            PassChecker x = Edges.busy();
            x.end(0, 0, Programs.IF, right, 2, 3);
            Due.is("IF of " + right, Programs.endOf(x, 0, 0), "1 " + right + " 2 3");
            x.end(0, 0, Programs.RETURN, right, 2, 3);
            Due.is("RETURN of " + right, Programs.endOf(x, 0, 0), "2 " + right + " 0 0");
        }
    }

    private static void endOfNoGoal() {
        Due.by("Promise 4", "X (of GO and IF) or Y (of IF) not 0 .. 5");
        for (int wrong : Edges.outside(6)) {
            Edges.refuses("GO to " + wrong, Edges.ARGUMENT, Edges.end(0, 0, Programs.GO, 0, wrong, 0));
            Edges.refuses("IF to X " + wrong, Edges.ARGUMENT, Edges.end(0, 0, Programs.IF, 0, wrong, 0));
            Edges.refuses("IF to Y " + wrong, Edges.ARGUMENT, Edges.end(0, 0, Programs.IF, 0, 0, wrong));
            PassChecker x = Edges.busy();
            x.end(0, 0, Programs.GO, 0, 5, wrong);
            Due.is("GO with Y " + wrong, Programs.endOf(x, 0, 0), "0 0 5 0");
            x.end(0, 0, Programs.RETURN, 5, wrong, wrong);
            Due.is("RETURN with X and Y " + wrong, Programs.endOf(x, 0, 0), "2 5 0 0");
        }
    }

    private static void endWithAGoalThatIsNotThere() {
        Due.by("Promise 4", "X (of GO and IF) or Y (of IF) not 0 .. 5");
        PassChecker x = Programs.withSource();
        for (int goal = 0; goal < 6; goal++) {
            x.end(0, 0, Programs.GO, 0, goal, 0);
            Due.is("GO to " + goal + " of one block", Programs.endOf(x, 0, 0), "0 0 " + goal + " 0");
            x.end(0, 0, Programs.IF, 0, goal, 5 - goal);
            Due.is("IF to " + goal + " of one block", Programs.endOf(x, 0, 0), "1 0 " + goal + " " + (5 - goal));
        }
    }

    private static void endClearsFields() {
        Due.by("Promise 4", "Fields that it does not use become 0.");
        PassChecker x = Programs.withSource();
        String[] want = {"0 0 4 0", "1 3 4 5", "2 3 0 0"};
        for (int kind = 0; kind < 3; kind++) {
            x.end(0, 0, Programs.IF, 1, 1, 1);
            x.end(0, 0, kind, 3, 4, 5);
            Due.is("kind " + kind + " with 3, 4, 5", Programs.endOf(x, 0, 0), want[kind]);
        }
    }

    private static void endWritesOver() {
        Due.by("Promise 4", "A block's end.");
        PassChecker x = withFullPrograms();
        for (int block = 0; block < 6; block++) {
            x.end(0, block, Programs.RETURN, block, 0, 0);
        }
        for (int block : Edges.inside(6)) {
            x.end(0, block, Programs.IF, 5, 4, 3);
            x.end(0, block, Programs.GO, 0, block, 0);
        }
        Due.is("the source", Edges.programOf(x, 0), "[ | 0 0 0 0] [ | 2 1 0 0] [ | 2 2 0 0] [ | 2 3 0 0]"
                + " [ | 2 4 0 0] [ | 0 0 5 0] ");
        Due.is("the target's block 0", Programs.endOf(x, 1, 0), "2 0 0 0");
    }

    private static void wipeLeavesNothing() {
        Due.by("Promise 5", "A program has no blocks any more.");
        for (int program = 0; program < 2; program++) {
            int of = program;
            PassChecker x = withFullPrograms();
            x.code(of, 5, Programs.STORE, 0, 0, 0);
            x.code(1 - of, 5, Programs.ADD, 1, 2, 3);
            String other = Edges.programOf(x, 1 - of);
            x.wipe(of);
            Due.is("blocks of " + of, Edges.blocksOf(x, of), 0);
            Due.is("the other one", Edges.programOf(x, 1 - of), other);
            Due.fails("instruction", Edges.INDEX, () -> x.instruction(of, 5, 0, 0));
            Due.fails("effects", Edges.INDEX, () -> x.effects(of, 5));
            for (int block = 0; block < 6; block++) {
                x.block(of);
                int now = block;
                Due.is("effects of a new block", x.effects(of, block), 0);
                Due.fails("instruction of a new block", Edges.INDEX, () -> x.instruction(of, now, 0, 0));
            }
        }
    }

    private static void wipeOfAnEmptyProgram() {
        Due.by("Promise 5", "A program has no blocks any more.");
        for (int program = 0; program < 2; program++) {
            PassChecker x = new PassChecker();
            x.wipe(program);
            x.wipe(program);
            Due.is("blocks", Edges.blocksOf(x, 0) + Edges.blocksOf(x, 1), 0);
            Due.is("block", x.block(program), 0);
        }
    }

    private static void wipeOfNoProgram() {
        Due.by("Promise 5", "IndexOutOfBoundsException if there is no such program.");
        for (int program : Edges.outside(2)) {
            Edges.refuses("wipe(" + program + ")", Edges.INDEX, Edges.wipe(program));
        }
    }

    private static void instructionFields() {
        Due.by("Promise 8", "A field of an instruction: operation (what = 0), D, A, B (3).");
        for (int program = 0; program < 2; program++) {
            PassChecker x = new PassChecker();
            Programs.addBlock(x, program, code(Programs.AND, 3, 4, 1), code(Programs.CONSTANT, 5, 0, Edges.LEAST));
            int[][] want = {{Programs.AND, 3, 4, 1}, {Programs.CONSTANT, 5, 0, Edges.LEAST}};
            for (int i = 0; i < 2; i++) {
                for (int what = 0; what < 4; what++) {
                    Due.is("field " + what + " of " + i, x.instruction(program, 0, i, what), want[i][what]);
                }
            }
        }
        PassChecker full = withFullBlock();
        Due.is("D of the last one of a full block", full.instruction(0, 1, 7, 1), 1);
    }

    private static void instructionThatIsNotThere() {
        Due.by("Promise 8", "IndexOutOfBoundsException if there is no such program, block or instruction");
        for (int what : new int[] {0, 3, 4}) {
            for (int wrong : Edges.outside(2)) {
                Edges.refuses("program " + wrong, Edges.INDEX, x -> x.instruction(wrong, 0, 0, what));
                Edges.refuses("block " + wrong, Edges.INDEX, x -> x.instruction(0, wrong, 0, what));
                Edges.refuses("instruction " + wrong, Edges.INDEX, x -> x.instruction(0, 0, wrong, what));
            }
            for (int wrong : Edges.outside(8)) {
                Edges.refuses("instruction " + wrong + " of a full block", Edges.INDEX,
                        ProgramEdgesTest::withFullBlock, x -> x.instruction(0, 1, wrong, what));
            }
            Edges.refuses("instruction 0 of an empty block", Edges.INDEX, ProgramEdgesTest::withFullBlock,
                    x -> x.instruction(0, 0, 0, what));
            Edges.refuses("the source's block alone", Edges.INDEX, x -> x.instruction(1, 1, 0, what));
            Edges.refuses("the source's instruction alone", Edges.INDEX, x -> x.instruction(1, 0, 1, what));
            for (int wrong : Edges.outside(6)) {
                Edges.refuses("block " + wrong + " of full programs", Edges.INDEX,
                        ProgramEdgesTest::withFullPrograms, x -> x.instruction(1, wrong, 0, what));
            }
        }
    }

    private static void instructionOfNoWhat() {
        Due.by("Promise 8", "IllegalArgumentException if there is no such what.");
        for (int what : Edges.outside(4)) {
            for (int i = 0; i < 2; i++) {
                int of = i;
                Edges.refuses("field " + what, Edges.ARGUMENT, x -> x.instruction(0, 0, of, what));
            }
        }
    }

    private static void endingFields() {
        Due.by("Promise 9", "A field of a block's end: kind (what = 0), A, X, Y (3);"
                + " how many instructions it has (4).");
        PassChecker x = withFullBlock();
        x.end(0, 1, Programs.IF, 5, 3, 4);
        int[] want = {Programs.IF, 5, 3, 4, 8};
        for (int what = 0; what < 5; what++) {
            Due.is("field " + what + " of a full block", x.ending(0, 1, what), want[what]);
        }
        int[] bare = {Programs.RETURN, 0, 0, 0, 0};
        for (int what = 0; what < 5; what++) {
            Due.is("field " + what + " of an empty block", x.ending(0, 0, what), bare[what]);
        }
    }

    private static void endingThatIsNotThere() {
        Due.by("Promise 9", "Exceptions as with instruction.");
        for (int what : new int[] {0, 4, 5}) {
            for (int wrong : Edges.outside(2)) {
                Edges.refuses("program " + wrong, Edges.INDEX, x -> x.ending(wrong, 0, what));
                Edges.refuses("block " + wrong, Edges.INDEX, x -> x.ending(0, wrong, what));
            }
            Edges.refuses("the source's block alone", Edges.INDEX, x -> x.ending(1, 1, what));
            for (int wrong : Edges.outside(6)) {
                Edges.refuses("block " + wrong + " of full programs", Edges.INDEX,
                        ProgramEdgesTest::withFullPrograms, x -> x.ending(0, wrong, what));
            }
        }
    }

    private static void endingOfNoWhat() {
        Due.by("Promise 9", "Exceptions as with instruction.");
        for (int what : Edges.outside(5)) {
            Edges.refuses("field " + what, Edges.ARGUMENT, x -> x.ending(0, 0, what));
            Edges.refuses("field " + what, Edges.ARGUMENT, x -> x.ending(1, 0, what));
        }
    }
}
