/** The edges that the document names, sentence by sentence: runs and their instructions, promises 14 to 17. */
public final class RunEdgesTest {
    private static final int NOT_DONE = 0;
    private static final int RETURNED = 1;
    private static final int DIVIDE_TRAPPED = 2;
    private static final int LOAD_TRAPPED = 3;
    private static final int STORE_TRAPPED = 4;

    public static void main(String[] args) {
        runOfNoProgram();
        runOfNoSteps();
        runOfTheFewestSteps();
        runOfTheMostSteps();
        runBeginsWithTwoInputs();
        runBeginsAnew();
        runBeginsAtBlockZero();
        runOfBlocksThatAreNotThere();
        runOfAFullProgram();
        runLeavesThePrograms();
        registersAndWords();
        loadsAndStores();
        constantsAndMoves();
        sumsWrapAround();
        lessOfEqualOnes();
        quotients();
        divideTraps();
        loadTraps();
        storeTraps();
        trapsOnTheLastStep();
        ifIsNotZero();
        returnedOfNone();
        wordOfNoPlace();
        wordOfNone();
        wordBehindTheLatest();
        stepsOfNone();
        stepsWithoutTheTrap();
        Due.finish();
    }

    private static int[] code(int operation, int d, int a, int b) {
        return Programs.code(operation, d, a, b);
    }

    private static int[] constant(int d, int number) {
        return code(Programs.CONSTANT, d, 0, number);
    }

    private static int[] store(int a, int b) {
        return code(Programs.STORE, 0, a, b);
    }

    private static int[] load(int d, int a) {
        return code(Programs.LOAD, d, a, 0);
    }

    private static PassChecker returning(int a, int[]... codes) {
        PassChecker x = Programs.withSource(codes);
        x.end(0, 0, Programs.RETURN, a, 0, 0);
        return x;
    }

    /** A run of the source: what it answers, and what is returned and done behind it. */
    private static void due(String what, PassChecker x, int first, int second, int steps, String want) {
        int outcome = x.run(0, first, second, steps);
        Due.is("run of " + what, outcome + ": " + x.returned() + " in " + x.steps(), want);
    }

    private static String words(PassChecker x) {
        StringBuilder text = new StringBuilder();
        for (int at = 0; at < 8; at++) {
            text.append(at == 0 ? "" : " ").append(x.word(at));
        }
        return text.toString();
    }

    private static void runOfNoProgram() {
        Due.by("Promise 14", "IndexOutOfBoundsException if there is no such program");
        for (int program : Edges.outside(2)) {
            Edges.refuses("run(" + program + ", ..)", Edges.INDEX, x -> x.run(program, 1, 1, 9));
            Edges.refuses("run(" + program + ", .., 501)", Edges.INDEX, x -> x.run(program, 1, 1, 501));
        }
    }

    private static void runOfNoSteps() {
        Due.by("Promise 14", "IllegalArgumentException if it is not 0 .. 500.");
        for (int steps : Edges.outside(501)) {
            for (int program = 0; program < 2; program++) {
                int of = program;
                Edges.refuses("run of " + steps + " steps", Edges.ARGUMENT, x -> x.run(of, 1, 1, steps));
                Edges.refuses("run of " + steps + " steps of nothing", Edges.ARGUMENT, PassChecker::new,
                        x -> x.run(of, 1, 1, steps));
            }
        }
    }

    private static void runOfTheFewestSteps() {
        Due.by("Promise 14", "Runs a program, at most so many instructions and ends (0 .. 500)");
        PassChecker x = returning(1, store(0, 1), code(Programs.ADD, 1, 1, 1));
        due("0 steps", x, 2, 21, 0, NOT_DONE + ": 0 in 0");
        Due.is("words behind 0 steps", words(x), "0 0 0 0 0 0 0 0");
        due("1 step", x, 2, 21, 1, NOT_DONE + ": 0 in 1");
        Due.is("words behind 1 step", words(x), "0 0 21 0 0 0 0 0");
        due("one step too few", x, 2, 21, 2, NOT_DONE + ": 0 in 2");
        due("just enough steps", x, 2, 21, 3, RETURNED + ": 42 in 3");
        due("a step more", x, 2, 21, 4, RETURNED + ": 42 in 3");
        due("the most steps", x, 2, 21, 500, RETURNED + ": 42 in 3");
    }

    /** A block of 4 instructions and its end is 5 steps; with 7 instructions and an end, 8. */
    private static void runOfTheMostSteps() {
        Due.by("Promise 14", "Runs a program, at most so many instructions and ends (0 .. 500)");
        PassChecker x = Programs.withSource();
        x.end(0, 0, Programs.GO, 0, 0, 0);
        due("500 ends", x, 0, 0, 500, NOT_DONE + ": 0 in 500");
        due("499 ends", x, 0, 0, 499, NOT_DONE + ": 0 in 499");
        PassChecker y = Programs.withSource(constant(3, -1), code(Programs.ADD, 0, 0, 3), store(2, 0),
                code(Programs.ADD, 4, 4, 3));
        y.end(0, 0, Programs.IF, 0, 0, 1);
        y.block(0);
        y.end(0, 1, Programs.RETURN, 4, 0, 0);
        due("99 rounds", y, 99, 0, 500, RETURNED + ": -99 in 496");
        due("100 rounds", y, 100, 0, 500, NOT_DONE + ": 0 in 500");
        Due.is("word(0) behind 100 rounds", y.word(0), 0);
        due("101 rounds", y, 101, 0, 500, NOT_DONE + ": 0 in 500");
        Due.is("word(0) behind 100 of 101 rounds", y.word(0), 1);
    }

    private static void runBeginsWithTwoInputs() {
        Due.by("Terms", "A RUN begins at block 0 with two inputs in registers 0 and 1, 0 in all others and in memory.");
        int[] inputs = {Edges.LEAST, Edges.GREATEST};
        for (int register = 0; register < 6; register++) {
            int want = register < 2 ? inputs[register] : 0;
            due("register " + register, returning(register), inputs[0], inputs[1], 1, RETURNED + ": " + want + " in 1");
        }
        for (int place = 0; place < 8; place++) {
            due("word " + place, returning(5, constant(5, 9), load(5, 0)), place, 1, 3, RETURNED + ": 0 in 3");
        }
    }

    private static void runBeginsAnew() {
        Due.by("Terms", "0 in all others and in memory");
        PassChecker x = returning(5, load(5, 0), code(Programs.ADD, 5, 5, 4), constant(4, 7), store(0, 4));
        for (int i = 0; i < 3; i++) {
            due("a run again", x, i, 0, 9, RETURNED + ": 0 in 5");
            Due.is("the word of this run", x.word(i), 7);
            Due.is("the word of the run before", x.word((i + 7) % 8), 0);
        }
        x.block(1);
        Due.is("run of the other program", x.run(1, 0, 0, 9), RETURNED);
        Due.is("words behind it", words(x), "0 0 0 0 0 0 0 0");
    }

    private static void runBeginsAtBlockZero() {
        Due.by("Terms", "A RUN begins at block 0");
        PassChecker x = new PassChecker();
        for (int block = 0; block < 6; block++) {
            Programs.addBlock(x, 1, constant(0, 10 + block));
        }
        for (int i = 0; i < 2; i++) {
            Due.is("run", x.run(1, 1, 1, 9), RETURNED);
            Due.is("returned", x.returned(), 10);
            x.end(1, 0, Programs.GO, 0, 5, 0);
            Due.is("run that goes to block 5", x.run(1, 1, 1, 9), RETURNED);
            Due.is("returned", x.returned(), 15);
            x.end(1, 0, Programs.RETURN, 0, 0, 0);
        }
        due("the source, which has none", x, 3, 4, 9, RETURNED + ": 3 in 1");
    }

    private static void runOfBlocksThatAreNotThere() {
        Due.by("Terms", "A block that is gone to which is not there is as one without instructions, with RETURN of"
                + " register 0.");
        due("nothing", new PassChecker(), 33, 44, 500, RETURNED + ": 33 in 1");
        due("nothing, without a step", new PassChecker(), 33, 44, 0, NOT_DONE + ": 0 in 0");
        for (int goal = 1; goal < 6; goal++) {
            PassChecker x = Programs.withSource(constant(0, 77));
            x.end(0, 0, Programs.GO, 0, goal, 0);
            due("GO to " + goal, x, 1, 2, 500, RETURNED + ": 77 in 3");
            due("GO to " + goal + ", a step too few", x, 1, 2, 2, NOT_DONE + ": 0 in 2");
            x.end(0, 0, Programs.IF, 1, goal, 0);
            due("IF to X " + goal, x, 1, 2, 500, RETURNED + ": 77 in 3");
            x.end(0, 0, Programs.IF, 2, 0, goal);
            due("IF to Y " + goal, x, 1, 2, 500, RETURNED + ": 77 in 3");
        }
        PassChecker wiped = Programs.withSource();
        Programs.addBlock(wiped, 0, constant(0, 5));
        wiped.end(0, 1, Programs.RETURN, 1, 0, 0);
        wiped.wipe(0);
        due("what was wiped", wiped, 33, 44, 9, RETURNED + ": 33 in 1");
        wiped.end(0, wiped.block(0), Programs.GO, 0, 1, 0);
        due("a block that was wiped", wiped, 33, 44, 9, RETURNED + ": 33 in 2");
        PassChecker taken = Programs.withSource();
        Programs.addBlock(taken, 0, constant(0, 5));
        taken.end(1, taken.block(1), Programs.GO, 0, 1, 0);
        taken.take();
        due("a block that take left out", taken, 33, 44, 9, RETURNED + ": 33 in 2");
    }

    private static void runOfAFullProgram() {
        Due.by("Terms", "A PROGRAM has at most 6 BLOCKS 0, 1, .. (0 is the first one), each with at most 8"
                + " INSTRUCTIONS, and an END.");
        PassChecker x = new PassChecker();
        for (int block = 0; block < 6; block++) {
            x.block(0);
            for (int i = 0; i < 8; i++) {
                x.code(0, block, Programs.ADD, 5, 5, 1);
            }
            x.end(0, block, Programs.GO, 0, (block + 1) % 6, 0);
        }
        x.end(0, 5, Programs.RETURN, 5, 0, 0);
        due("six blocks of eight", x, 0, 2, 54, RETURNED + ": 96 in 54");
        due("six blocks of eight, a step too few", x, 0, 2, 53, NOT_DONE + ": 0 in 53");
    }

    private static void runLeavesThePrograms() {
        Due.by("Promise 14", "Runs a program");
        PassChecker x = Edges.busy();
        String programs = Edges.programOf(x, 0) + Edges.programOf(x, 1);
        x.run(0, 8, 8, 500);
        x.run(1, 1, 1, 1);
        Due.is("the programs", Edges.programOf(x, 0) + Edges.programOf(x, 1), programs);
    }

    private static void registersAndWords() {
        Due.by("Terms", "There are REGISTERS 0 .. 5 and 8 WORDS of memory, ints.");
        int[] numbers = {Edges.LEAST, Edges.GREATEST, -1, 0, 1, 77};
        PassChecker x = Programs.withSource();
        for (int register = 0; register < 6; register++) {
            x.code(0, 0, Programs.CONSTANT, register, 0, numbers[register]);
        }
        for (int register = 0; register < 6; register++) {
            x.end(0, 0, Programs.RETURN, register, 0, 0);
            due("register " + register, x, 9, 9, 9, RETURNED + ": " + numbers[register] + " in 7");
        }
        PassChecker y = Programs.withSource(constant(5, 1), store(2, 0), code(Programs.ADD, 2, 2, 5), store(2, 1),
                code(Programs.ADD, 2, 2, 5), constant(4, 8), code(Programs.LESS, 3, 2, 4));
        y.end(0, 0, Programs.IF, 3, 0, 1);
        due("all eight words", y, Edges.LEAST, Edges.GREATEST, 500, RETURNED + ": " + Edges.LEAST + " in 33");
        String pair = Edges.LEAST + " " + Edges.GREATEST;
        Due.is("words", words(y), pair + " " + pair + " " + pair + " " + pair);
    }

    private static void loadsAndStores() {
        Due.by("Terms", "8 LOAD: D becomes the word that register A names. 9 STORE: the word that register A names"
                + " becomes register B");
        due("LOAD of what was stored", returning(5, store(0, 1), load(5, 0)), 7, Edges.LEAST, 9,
                RETURNED + ": " + Edges.LEAST + " in 3");
        due("LOAD onto the register of its place", returning(0, store(0, 1), load(0, 0)), 7, 5, 9,
                RETURNED + ": 5 in 3");
        due("STORE of the register of its place", returning(5, store(0, 0), load(5, 0)), 7, 5, 9,
                RETURNED + ": 7 in 3");
        due("STORE over another one", returning(5, store(0, 1), store(0, 0), load(5, 0)), 7, 5, 9,
                RETURNED + ": 7 in 4");
        due("LOAD of another word", returning(5, store(0, 1), load(5, 1)), 7, 5, 9, RETURNED + ": 0 in 3");
    }

    private static void constantsAndMoves() {
        Due.by("Terms", "0 CONSTANT: register D becomes the number B. 1 MOVE: D becomes register A.");
        for (int number : new int[] {0, -1, Edges.LEAST, Edges.GREATEST}) {
            due("CONSTANT " + number, returning(5, constant(5, number)), 1, 2, 9, RETURNED + ": " + number + " in 2");
            due("MOVE of " + number, returning(5, code(Programs.MOVE, 5, 0, 0)), number, 2, 9,
                    RETURNED + ": " + number + " in 2");
            due("MOVE onto itself", returning(0, code(Programs.MOVE, 0, 0, 0)), number, 2, 9,
                    RETURNED + ": " + number + " in 2");
        }
    }

    private static void dueOperation(int operation, int a, int b, int want) {
        String what = a + " and " + b + " by " + operation;
        due(what, returning(5, code(operation, 5, 0, 1)), a, b, 9, RETURNED + ": " + want + " in 2");
        due(what + ", onto A", returning(0, code(operation, 0, 0, 1)), a, b, 9, RETURNED + ": " + want + " in 2");
        due(what + ", onto B", returning(1, code(operation, 1, 0, 1)), a, b, 9, RETURNED + ": " + want + " in 2");
    }

    private static void sumsWrapAround() {
        Due.by("Terms", "2 A + B, 3 A - B, 4 A * B (they wrap)");
        dueOperation(Programs.ADD, Edges.GREATEST, 1, Edges.LEAST);
        dueOperation(Programs.ADD, Edges.LEAST, -1, Edges.GREATEST);
        dueOperation(Programs.ADD, Edges.LEAST, Edges.LEAST, 0);
        dueOperation(Programs.SUBTRACT, Edges.LEAST, 1, Edges.GREATEST);
        dueOperation(Programs.SUBTRACT, Edges.GREATEST, -1, Edges.LEAST);
        dueOperation(Programs.SUBTRACT, 0, Edges.LEAST, Edges.LEAST);
        dueOperation(Programs.MULTIPLY, Edges.GREATEST, 2, -2);
        dueOperation(Programs.MULTIPLY, Edges.LEAST, -1, Edges.LEAST);
        dueOperation(Programs.MULTIPLY, 1 << 16, 1 << 16, 0);
        dueOperation(Programs.AND, Edges.LEAST, -1, Edges.LEAST);
        dueOperation(Programs.AND, Edges.LEAST, Edges.GREATEST, 0);
    }

    private static void lessOfEqualOnes() {
        Due.by("Terms", "6 LESS (1 if A is less than B, else 0)");
        dueOperation(Programs.LESS, 3, 4, 1);
        dueOperation(Programs.LESS, 4, 4, 0);
        dueOperation(Programs.LESS, 4, 3, 0);
        dueOperation(Programs.LESS, Edges.LEAST, Edges.GREATEST, 1);
        dueOperation(Programs.LESS, Edges.GREATEST, Edges.LEAST, 0);
        dueOperation(Programs.LESS, Edges.LEAST, Edges.LEAST, 0);
    }

    private static void quotients() {
        Due.by("Terms", "7 A / B: D becomes that of registers A and B");
        dueOperation(Programs.DIVIDE, 7, 2, 3);
        dueOperation(Programs.DIVIDE, -7, 2, -3);
        dueOperation(Programs.DIVIDE, 7, -2, -3);
        dueOperation(Programs.DIVIDE, 0, -2, 0);
        dueOperation(Programs.DIVIDE, Edges.LEAST, -1, Edges.LEAST);
        dueOperation(Programs.DIVIDE, Edges.LEAST, 1, Edges.LEAST);
        dueOperation(Programs.DIVIDE, Edges.LEAST, Edges.LEAST, 1);
    }

    private static void divideTraps() {
        Due.by("Terms", "/ by 0 TRAPS");
        for (int number : new int[] {0, 1, -1, Edges.LEAST, Edges.GREATEST}) {
            due(number + " / 0", returning(0, code(Programs.DIVIDE, 5, 0, 1)), number, 0, 9,
                    DIVIDE_TRAPPED + ": 0 in 0");
        }
        due("0 / 0 of one register", returning(0, code(Programs.DIVIDE, 5, 3, 3)), 1, 1, 9,
                DIVIDE_TRAPPED + ": 0 in 0");
    }

    private static void loadTraps() {
        Due.by("Terms", "both TRAP if it is not 0 .. 7");
        PassChecker x = returning(1, load(1, 0));
        for (int place : Edges.outside(8)) {
            due("LOAD at " + place, x, place, 5, 9, LOAD_TRAPPED + ": 0 in 0");
        }
        for (int place : Edges.inside(8)) {
            due("LOAD at " + place, x, place, 5, 9, RETURNED + ": 0 in 2");
        }
    }

    private static void storeTraps() {
        Due.by("Terms", "both TRAP if it is not 0 .. 7");
        PassChecker x = returning(1, store(0, 1));
        for (int place : Edges.outside(8)) {
            due("STORE at " + place, x, place, 5, 9, STORE_TRAPPED + ": 0 in 0");
            Due.is("words behind STORE at " + place, words(x), "0 0 0 0 0 0 0 0");
        }
        String[] want = {"-5 0 0 0 0 0 0 0", "0 0 0 0 0 0 0 -5"};
        for (int i = 0; i < 2; i++) {
            due("STORE at " + 7 * i, x, 7 * i, -5, 9, RETURNED + ": -5 in 2");
            Due.is("words behind STORE at " + 7 * i, words(x), want[i]);
        }
    }

    private static void trapsOnTheLastStep() {
        Due.by("Promise 14", "0 it was not done, 1 it returned, 2 a / trapped, 3 a LOAD, 4 a STORE");
        int[][] trapping = {code(Programs.DIVIDE, 5, 0, 2), load(5, 0), store(0, 1)};
        for (int i = 0; i < 3; i++) {
            PassChecker x = returning(1, constant(4, 4), trapping[i]);
            due("a trap that is not come to", x, -1, 5, 1, NOT_DONE + ": 0 in 1");
            due("a trap on the last step", x, -1, 5, 2, (2 + i) + ": 0 in 1");
            due("a trap", x, -1, 5, 500, (2 + i) + ": 0 in 1");
        }
    }

    private static void ifIsNotZero() {
        Due.by("Terms", "1 IF register A is not 0, to X, else to Y.");
        PassChecker x = Programs.withSource();
        Programs.addBlock(x, 0, constant(5, 10));
        Programs.addBlock(x, 0, constant(5, 20));
        x.end(0, 0, Programs.IF, 0, 1, 2);
        x.end(0, 1, Programs.RETURN, 5, 0, 0);
        x.end(0, 2, Programs.RETURN, 5, 0, 0);
        for (int number : new int[] {1, -1, Edges.LEAST, Edges.GREATEST}) {
            due("IF of " + number, x, number, 0, 9, RETURNED + ": 10 in 3");
        }
        due("IF of 0", x, 0, 1, 9, RETURNED + ": 20 in 3");
    }

    private static void returnedOfNone() {
        Due.by("Promise 15", "What the latest run returned; 0 if it did not, or there was none.");
        Due.is("returned() of a new object", new PassChecker().returned(), 0);
        PassChecker x = returning(0, store(0, 1));
        due("one that returns", x, 7, 5, 9, RETURNED + ": 7 in 2");
        due("one that traps behind it", x, 8, 5, 9, STORE_TRAPPED + ": 0 in 0");
        due("one that returns", x, 7, 5, 9, RETURNED + ": 7 in 2");
        due("one that is not done behind it", x, 7, 5, 1, NOT_DONE + ": 0 in 1");
        due("one that returns", x, 6, 5, 9, RETURNED + ": 6 in 2");
        x.wipe(0);
        x.take();
        x.pass(0);
        x.check();
        Due.is("returned() behind other calls", x.returned(), 6);
        due("one that returns the least", returning(0), Edges.LEAST, 0, 1, RETURNED + ": " + Edges.LEAST + " in 1");
    }

    private static void wordOfNoPlace() {
        Due.by("Promise 16", "IndexOutOfBoundsException if it is not 0 .. 7.");
        for (int at : Edges.outside(8)) {
            Edges.refuses("word(" + at + ")", Edges.INDEX, x -> x.word(at));
            Edges.refuses("word(" + at + ") without a run", Edges.INDEX, PassChecker::new, x -> x.word(at));
        }
    }

    private static void wordOfNone() {
        Due.by("Promise 16", "0 if there was none");
        Due.is("words of a new object", words(new PassChecker()), "0 0 0 0 0 0 0 0");
    }

    private static void wordBehindTheLatest() {
        Due.by("Promise 16", "A word of memory behind the latest run");
        PassChecker x = returning(0, constant(2, 7), store(2, 1), constant(2, Edges.LEAST), store(3, 2), store(0, 1));
        due("three STOREs", x, 4, 6, 9, RETURNED + ": 4 in 6");
        Due.is("words", words(x), Edges.LEAST + " 0 0 0 6 0 0 6");
        due("a trap at the third", x, 8, 6, 9, STORE_TRAPPED + ": 0 in 4");
        Due.is("words behind a trap", words(x), Edges.LEAST + " 0 0 0 0 0 0 6");
        due("not done", x, 4, 9, 3, NOT_DONE + ": 0 in 3");
        Due.is("words behind one that is not done", words(x), "0 0 0 0 0 0 0 9");
        x.wipe(0);
        x.check();
        Due.is("words behind other calls", words(x), "0 0 0 0 0 0 0 9");
        due("no step", x, 4, 9, 0, NOT_DONE + ": 0 in 0");
        Due.is("words behind no step", words(x), "0 0 0 0 0 0 0 0");
    }

    private static void stepsOfNone() {
        Due.by("Promise 17", "0 if there was none");
        PassChecker x = new PassChecker();
        Due.is("steps() of a new object", x.steps(), 0);
        x.run(0, 1, 1, 1);
        Due.is("steps() behind a run of nothing", x.steps(), 1);
        x.block(0);
        x.wipe(0);
        x.check();
        Due.is("steps() behind other calls", x.steps(), 1);
        x.run(0, 1, 1, 0);
        Due.is("steps() behind a run without steps", x.steps(), 0);
    }

    private static void stepsWithoutTheTrap() {
        Due.by("Promise 17", "How many instructions and ends the latest run did (one that trapped is not done)");
        PassChecker x = Programs.withSource(constant(3, 1), code(Programs.SUBTRACT, 0, 0, 3), load(4, 0));
        x.end(0, 0, Programs.GO, 0, 0, 0);
        due("a LOAD that traps in the first round", x, 0, 0, 500, LOAD_TRAPPED + ": 0 in 2");
        due("a LOAD that traps in the fourth round", x, 3, 0, 500, LOAD_TRAPPED + ": 0 in 14");
        due("a LOAD that would trap behind the last step", x, 3, 0, 14, NOT_DONE + ": 0 in 14");
    }
}
