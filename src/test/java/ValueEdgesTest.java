/** The edges that the document names, sentence by sentence: the checker's values and effects, promises 12 and 13. */
public final class ValueEdgesTest {
    public static void main(String[] args) {
        sameOfNoBlock();
        sameOfNoRegister();
        sameOfAnyTwoRegisters();
        sameBehindABlock();
        registersAreAtoms();
        multiplesWrapAround();
        numbersWrapAround();
        sameIfAllIsTheSame();
        sumsAddAndTakeAway();
        productsByNumbers();
        productsOfValues();
        andOfNumbersAndSameValues();
        andWithZeroAndMinusOne();
        lessOfNumbersAndSameValues();
        quotientsByNumbers();
        quotientsByAnythingElse();
        loadsAndStores();
        atomsOfTwoOperations();
        blocksAreWorkedOutAnew();
        asManyAtomsAsTwoFullBlocksMake();
        effectsOfNoBlock();
        effectsOfAnEmptyBlock();
        effectsOfAFullBlock();
        effectsOfQuotients();
        effectsOfQuotientsBefore();
        effectsOfLoads();
        effectsOfLoadsBefore();
        effectsOfStores();
        Due.finish();
    }

    private static int[] code(int operation, int d, int a, int b) {
        return Programs.code(operation, d, a, b);
    }

    private static int[] constant(int d, int number) {
        return code(Programs.CONSTANT, d, 0, number);
    }

    private static int[] move(int d, int a) {
        return code(Programs.MOVE, d, a, 0);
    }

    private static int[] add(int d, int a, int b) {
        return code(Programs.ADD, d, a, b);
    }

    private static int[] subtract(int d, int a, int b) {
        return code(Programs.SUBTRACT, d, a, b);
    }

    private static int[] multiply(int d, int a, int b) {
        return code(Programs.MULTIPLY, d, a, b);
    }

    private static int[] divide(int d, int a, int b) {
        return code(Programs.DIVIDE, d, a, b);
    }

    private static int[] load(int d, int a) {
        return code(Programs.LOAD, d, a, 0);
    }

    private static int[] store(int a, int b) {
        return code(Programs.STORE, 0, a, b);
    }

    private static int[][] codes(int[]... codes) {
        return codes;
    }

    /** Whether register 5 is the same behind two blocks, whichever of them is the source's. */
    private static void due(String what, boolean want, int[][] one, int[][] other) {
        for (int turn = 0; turn < 2; turn++) {
            PassChecker x = new PassChecker();
            Programs.addBlock(x, turn, one);
            Programs.addBlock(x, 1 - turn, other);
            Due.is("same of " + what, x.same(0, 5, 0, 5), want);
        }
    }

    private static void dueNumber(String what, int number, int[]... codes) {
        due(what + " and " + number, true, codes, codes(constant(5, number)));
    }

    /** That what a block comes to is neither of the values that are near. */
    private static void dueAtom(String what, int[]... codes) {
        due(what + " and itself", true, codes, codes);
        for (int number = -1; number <= 1; number++) {
            due(what + " and " + number, false, codes, codes(constant(5, number)));
        }
        for (int register = 0; register < 5; register++) {
            due(what + " and register " + register, false, codes, codes(move(5, register)));
        }
    }

    private static void dueEffects(String what, int want, int[]... codes) {
        PassChecker x = new PassChecker();
        for (int program = 0; program < 2; program++) {
            Programs.addBlock(x, program, codes);
            Due.is("effects of " + what, x.effects(program, 0), want);
        }
    }

    private static PassChecker withBlocks(int ofSource, int ofTarget) {
        PassChecker x = new PassChecker();
        for (int i = 0; i < ofSource; i++) {
            x.block(0);
        }
        for (int i = 0; i < ofTarget; i++) {
            x.block(1);
        }
        return x;
    }

    private static void sameOfNoBlock() {
        Due.by("Promise 12", "IndexOutOfBoundsException if there is no such block or register.");
        for (int[] blocks : new int[][] {{2, 1}, {1, 2}, {6, 6}, {0, 1}, {1, 0}}) {
            String of = " of " + blocks[0] + " and " + blocks[1];
            for (int wrong : Edges.outside(blocks[0])) {
                Edges.refuses("block " + wrong + of, Edges.INDEX, () -> withBlocks(blocks[0], blocks[1]),
                        x -> x.same(wrong, 0, 0, 0));
            }
            for (int wrong : Edges.outside(blocks[1])) {
                Edges.refuses("other " + wrong + of, Edges.INDEX, () -> withBlocks(blocks[0], blocks[1]),
                        x -> x.same(0, 0, wrong, 0));
            }
        }
        Due.is("the last blocks", withBlocks(6, 6).same(5, 0, 5, 0), true);
    }

    private static void sameOfNoRegister() {
        Due.by("Promise 12", "IndexOutOfBoundsException if there is no such block or register.");
        for (int wrong : Edges.outside(6)) {
            Edges.refuses("register " + wrong, Edges.INDEX, x -> x.same(0, wrong, 0, 0));
            Edges.refuses("second " + wrong, Edges.INDEX, x -> x.same(0, 0, 0, wrong));
        }
    }

    private static void sameOfAnyTwoRegisters() {
        Due.by("Promise 12", "as another one (or the same) behind a block of the target");
        PassChecker x = withBlocks(6, 6);
        for (int register = 0; register < 6; register++) {
            for (int second = 0; second < 6; second++) {
                Due.is("registers " + register + " and " + second + " of empty blocks",
                        x.same(0, register, 5, second), register == second);
            }
        }
    }

    private static void sameBehindABlock() {
        Due.by("Promise 12", "Whether a register has the same value behind a block of the source");
        PassChecker x = withBlocks(2, 2);
        x.code(0, 1, Programs.CONSTANT, 3, 0, 8);
        x.code(1, 0, Programs.CONSTANT, 4, 0, 8);
        x.end(0, 0, Programs.GO, 0, 1, 0);
        Due.is("3 behind the source's 1, 4 behind the target's 0", x.same(1, 3, 0, 4), true);
        Due.is("4 behind the source's 1, 3 behind the target's 0", x.same(1, 4, 0, 3), false);
        Due.is("3 behind the source's 0, 4 behind the target's 0", x.same(0, 3, 0, 4), false);
        Due.is("3 behind the source's 1, 4 behind the target's 1", x.same(1, 3, 1, 4), false);
        Due.is("3 behind the source's 0, 3 behind the target's 0", x.same(0, 3, 0, 3), true);
    }

    private static void registersAreAtoms() {
        Due.by("Terms", "Atoms: what a register was when the block began");
        due("a register that is not written", true, codes(), codes());
        due("a register that comes back", true, codes(move(0, 5), constant(5, 3), move(5, 0)), codes());
        due("a register and 0, with which a run begins", false, codes(), codes(constant(5, 0)));
        due("what a register became and what it was", false, codes(constant(0, 1), move(5, 0)), codes(move(5, 0)));
    }

    private static void multiplesWrapAround() {
        Due.by("Terms", "A value is a number and a sum of multiples (ints, that wrap) of different ATOMS.");
        dueNumber("least * a twice", 0, constant(4, Edges.LEAST), multiply(5, 0, 4), add(5, 5, 5));
        dueAtom("least * a", constant(4, Edges.LEAST), multiply(5, 0, 4));
        due("greatest * a + a and least * a", true,
                codes(constant(4, Edges.GREATEST), multiply(5, 0, 4), add(5, 5, 0)),
                codes(constant(4, Edges.LEAST), multiply(5, 0, 4)));
        due("least * a - a and greatest * a", true,
                codes(constant(4, Edges.LEAST), multiply(5, 0, 4), subtract(5, 5, 0)),
                codes(constant(4, Edges.GREATEST), multiply(5, 0, 4)));
        due("65536 * (65536 * a + b) and 65536 * b", true,
                codes(constant(4, 1 << 16), multiply(5, 0, 4), add(5, 5, 1), multiply(5, 5, 4)),
                codes(constant(4, 1 << 16), multiply(5, 1, 4)));
        due("least * a and least * b", false, codes(constant(4, Edges.LEAST), multiply(5, 0, 4)),
                codes(constant(4, Edges.LEAST), multiply(5, 1, 4)));
        dueNumber("a number of a multiple that wrapped to 0, as a divisor", 3,
                constant(4, Edges.LEAST), multiply(3, 0, 4), add(3, 3, 3), constant(4, 2), add(3, 3, 4),
                constant(5, 7), divide(5, 5, 3));
    }

    private static void numbersWrapAround() {
        Due.by("Terms", "A value is a number and a sum of multiples (ints, that wrap) of different ATOMS.");
        int[] one = constant(3, 1);
        int[] most = constant(4, Edges.GREATEST);
        int[] least = constant(4, Edges.LEAST);
        dueNumber("greatest + 1", Edges.LEAST, one, most, add(5, 4, 3));
        dueNumber("least - 1", Edges.GREATEST, one, least, subtract(5, 4, 3));
        dueNumber("greatest * greatest", 1, most, multiply(5, 4, 4));
        dueNumber("least * least", 0, least, multiply(5, 4, 4));
        dueNumber("least / -1", Edges.LEAST, least, constant(3, -1), divide(5, 4, 3));
        due("a + greatest + 1 and a + least", true, codes(one, most, add(5, 0, 4), add(5, 5, 3)),
                codes(least, add(5, 0, 4)));
    }

    private static void sameIfAllIsTheSame() {
        Due.by("Terms", "Two values are the same if all that is the same.");
        int[][] value = codes(constant(5, 1), add(5, 5, 0), add(5, 5, 1), add(5, 5, 1));
        due("1 + a + 2 * b and itself in another order", true, value,
                codes(add(5, 1, 1), constant(4, 1), add(4, 4, 0), add(5, 4, 5)));
        due("another number", false, value, codes(constant(5, 2), add(5, 5, 0), add(5, 5, 1), add(5, 5, 1)));
        due("another multiple", false, value, codes(constant(5, 1), add(5, 5, 0), add(5, 5, 1)));
        due("another atom", false, value, codes(constant(5, 1), add(5, 5, 2), add(5, 5, 1), add(5, 5, 1)));
        due("an atom more", false, value, codes(constant(5, 1), add(5, 5, 0), add(5, 5, 1), add(5, 5, 1),
                add(5, 5, 2)));
        due("multiples the other way round", false, value, codes(constant(5, 1), add(5, 5, 0), add(5, 5, 0),
                add(5, 5, 1)));
    }

    private static void sumsAddAndTakeAway() {
        Due.by("Terms", "+ and - add and take away");
        dueNumber("a - a", 0, subtract(5, 0, 0));
        due("a + b - a and b", true, codes(add(5, 0, 1), subtract(5, 5, 0)), codes(move(5, 1)));
        due("a + 0 and a", true, codes(constant(4, 0), add(5, 0, 4)), codes(move(5, 0)));
        due("a - 0 and a", true, codes(constant(4, 0), subtract(5, 0, 4)), codes(move(5, 0)));
        due("0 - a and -1 * a", true, codes(constant(4, 0), subtract(5, 4, 0)),
                codes(constant(4, -1), multiply(5, 0, 4)));
        due("a - b and b - a", false, codes(subtract(5, 0, 1)), codes(subtract(5, 1, 0)));
        due("a + b and b + a", true, codes(add(5, 0, 1)), codes(add(5, 1, 0)));
        due("a + b and a + c", false, codes(add(5, 0, 1)), codes(add(5, 0, 2)));
        due("a + 1 and a + 2", false, codes(constant(4, 1), add(5, 0, 4)), codes(constant(4, 2), add(5, 0, 4)));
        due("a & b - b & a and 0", true, codes(code(Programs.AND, 4, 0, 1), code(Programs.AND, 5, 1, 0),
                subtract(5, 4, 5)), codes(constant(5, 0)));
    }

    private static void productsByNumbers() {
        Due.by("Terms", "* by a value that is a number multiplies");
        for (int turn = 0; turn < 2; turn++) {
            dueNumber("a * 0", 0, constant(1, 0), multiply(5, turn, 1 - turn));
            due("a * 1 and a", true, codes(constant(1, 1), multiply(5, turn, 1 - turn)), codes(move(5, 0)));
            due("a * -1 and 0 - a", true, codes(constant(1, -1), multiply(5, turn, 1 - turn)),
                    codes(constant(4, 0), subtract(5, 4, 0)));
            due("a * 3 and a + a + a", true, codes(constant(1, 3), multiply(5, turn, 1 - turn)),
                    codes(add(5, 0, 0), add(5, 5, 0)));
            due("(a + b + 1) * 2", true, codes(constant(4, 1), add(4, 4, 0), add(0, 4, 1), constant(1, 2),
                    multiply(5, turn, 1 - turn)), codes(constant(5, 2), add(5, 5, 0), add(5, 5, 0), add(5, 5, 1),
                    add(5, 5, 1)));
            due("by b - b + 2", true, codes(subtract(1, 1, 1), constant(4, 2), add(1, 1, 4),
                    multiply(5, turn, 1 - turn)), codes(add(5, 0, 0)));
        }
        dueNumber("6 * 7", 42, constant(3, 6), constant(4, 7), multiply(5, 3, 4));
    }

    private static void productsOfValues() {
        Due.by("Terms", "else * is an atom of two values (in any order: the same atom if they are the same values)");
        dueAtom("a * b", multiply(5, 0, 1));
        dueAtom("a * a", multiply(5, 0, 0));
        due("a * b and b * a", true, codes(multiply(5, 0, 1)), codes(multiply(5, 1, 0)));
        due("a * b and a * c", false, codes(multiply(5, 0, 1)), codes(multiply(5, 0, 2)));
        due("a * b and c * b", false, codes(multiply(5, 0, 1)), codes(multiply(5, 2, 1)));
        due("a * a and a * b", false, codes(multiply(5, 0, 0)), codes(multiply(5, 0, 1)));
        due("a * b and b * b", false, codes(multiply(5, 0, 1)), codes(multiply(5, 1, 1)));
        due("a * c and b * c", false, codes(multiply(5, 0, 2)), codes(multiply(5, 1, 2)));
        due("a * b and a & b", false, codes(multiply(5, 0, 1)), codes(code(Programs.AND, 5, 0, 1)));
        due("(a + b) * c and c * (b + a)", true, codes(add(5, 0, 1), multiply(5, 5, 2)),
                codes(add(5, 1, 0), multiply(5, 2, 5)));
        due("(a + 1) * b and a * b + b", false, codes(constant(4, 1), add(4, 4, 0), multiply(5, 4, 1)),
                codes(multiply(5, 0, 1), add(5, 5, 1)));
        due("(a * b) * c and a * (b * c)", false, codes(multiply(5, 0, 1), multiply(5, 5, 2)),
                codes(multiply(5, 1, 2), multiply(5, 0, 5)));
    }

    private static void andOfNumbersAndSameValues() {
        Due.by("Terms", "& of two numbers is that number; of two same values that value");
        dueNumber("12 & 10", 8, constant(3, 12), constant(4, 10), code(Programs.AND, 5, 3, 4));
        dueNumber("least & greatest", 0, constant(3, Edges.LEAST), constant(4, Edges.GREATEST),
                code(Programs.AND, 5, 3, 4));
        dueNumber("least & least", Edges.LEAST, constant(3, Edges.LEAST), code(Programs.AND, 5, 3, 3));
        due("a & a and a", true, codes(code(Programs.AND, 5, 0, 0)), codes(move(5, 0)));
        due("(a + b) & (b + a) and a + b", true, codes(add(3, 0, 1), add(4, 1, 0), code(Programs.AND, 5, 3, 4)),
                codes(add(5, 0, 1)));
    }

    private static void andWithZeroAndMinusOne() {
        Due.by("Terms", "with 0 it is 0, with -1 the other one; else an atom, likewise in any order");
        for (int turn = 0; turn < 2; turn++) {
            int[] and = code(Programs.AND, 5, turn, 1 - turn);
            dueNumber("a & 0", 0, constant(1, 0), and);
            due("a & -1 and a", true, codes(constant(1, -1), and), codes(move(5, 0)));
            for (int number : new int[] {1, -2, Edges.LEAST, Edges.GREATEST}) {
                due("a & " + number + " and a", false, codes(constant(1, number), and), codes(move(5, 0)));
                due("a & " + number + " and 0", false, codes(constant(1, number), and), codes(constant(5, 0)));
                due("a & " + number + ", in any order", true, codes(constant(1, number), and),
                        codes(constant(1, number), code(Programs.AND, 5, 0, 1)));
            }
            due("a & (b - 1) and a", false, codes(constant(4, -1), add(1, 1, 4), and), codes(move(5, 0)));
        }
        dueAtom("a & b", code(Programs.AND, 5, 0, 1));
        due("a & b and b & a", true, codes(code(Programs.AND, 5, 0, 1)), codes(code(Programs.AND, 5, 1, 0)));
        due("a & b and a & c", false, codes(code(Programs.AND, 5, 0, 1)), codes(code(Programs.AND, 5, 0, 2)));
        due("a & b and c & b", false, codes(code(Programs.AND, 5, 0, 1)), codes(code(Programs.AND, 5, 2, 1)));
        due("a & c and b & c", false, codes(code(Programs.AND, 5, 0, 2)), codes(code(Programs.AND, 5, 1, 2)));
    }

    private static void lessOfNumbersAndSameValues() {
        Due.by("Terms", "LESS of two numbers is that; of two same values 0; else an atom of both.");
        int[][] numbers = {{3, 4, 1}, {4, 4, 0}, {4, 3, 0}, {-1, 0, 1}, {0, -1, 0},
            {Edges.LEAST, Edges.GREATEST, 1}, {Edges.GREATEST, Edges.LEAST, 0}};
        for (int[] of : numbers) {
            dueNumber(of[0] + " < " + of[1], of[2], constant(3, of[0]), constant(4, of[1]),
                    code(Programs.LESS, 5, 3, 4));
        }
        dueNumber("a < a", 0, code(Programs.LESS, 5, 0, 0));
        dueNumber("a + b < b + a", 0, add(3, 0, 1), add(4, 1, 0), code(Programs.LESS, 5, 3, 4));
        dueAtom("a < b", code(Programs.LESS, 5, 0, 1));
        dueAtom("a < a + 1", constant(4, 1), add(4, 4, 0), code(Programs.LESS, 5, 0, 4));
        dueAtom("a < least", constant(4, Edges.LEAST), code(Programs.LESS, 5, 0, 4));
        due("a < b and b < a", false, codes(code(Programs.LESS, 5, 0, 1)), codes(code(Programs.LESS, 5, 1, 0)));
        due("a < b and a < c", false, codes(code(Programs.LESS, 5, 0, 1)), codes(code(Programs.LESS, 5, 0, 2)));
        due("a < b and c < b", false, codes(code(Programs.LESS, 5, 0, 1)), codes(code(Programs.LESS, 5, 2, 1)));
    }

    private static void quotientsByNumbers() {
        Due.by("Terms", "/: by a number that is not 0: of a number that number, by 1 the value itself, else an atom"
                + " of both");
        int[][] numbers = {{7, 2, 3}, {-7, 2, -3}, {7, -2, -3}, {0, 5, 0}, {7, 1, 7}, {7, -1, -7},
            {Edges.LEAST, -1, Edges.LEAST}, {Edges.LEAST, Edges.LEAST, 1}, {Edges.GREATEST, Edges.LEAST, 0}};
        for (int[] of : numbers) {
            dueNumber(of[0] + " / " + of[1], of[2], constant(3, of[0]), constant(4, of[1]), divide(5, 3, 4));
        }
        due("a / 1 and a", true, codes(constant(4, 1), divide(5, 0, 4)), codes(move(5, 0)));
        for (int number : new int[] {-1, 2, Edges.LEAST}) {
            dueAtom("a / " + number, constant(4, number), divide(5, 0, 4));
        }
        due("a / -1 and 0 - a", false, codes(constant(4, -1), divide(5, 0, 4)),
                codes(constant(4, 0), subtract(5, 4, 0)));
        due("(a + a) / 2 and a", false, codes(add(5, 0, 0), constant(4, 2), divide(5, 5, 4)), codes(move(5, 0)));
        due("a / 2 and b / 2", false, codes(constant(4, 2), divide(5, 0, 4)), codes(constant(4, 2), divide(5, 1, 4)));
        due("a / 2 and a / 3", false, codes(constant(4, 2), divide(5, 0, 4)), codes(constant(4, 3), divide(5, 0, 4)));
    }

    private static void quotientsByAnythingElse() {
        Due.by("Terms", "by anything else an atom of both");
        dueAtom("a / b", divide(5, 0, 1));
        dueAtom("a / a", divide(5, 0, 0));
        dueAtom("0 / a", constant(4, 0), divide(5, 4, 0));
        dueAtom("a / 0", constant(4, 0), divide(5, 0, 4));
        dueAtom("7 / 0", constant(3, 7), constant(4, 0), divide(5, 3, 4));
        dueAtom("0 / 0", constant(4, 0), divide(5, 4, 4));
        due("a / b and b / a", false, codes(divide(5, 0, 1)), codes(divide(5, 1, 0)));
        due("7 / 0 and 8 / 0", false, codes(constant(3, 7), constant(4, 0), divide(5, 3, 4)),
                codes(constant(3, 8), constant(4, 0), divide(5, 3, 4)));
        due("a / (b + 0) and a / b", true, codes(constant(4, 0), add(4, 4, 1), divide(5, 0, 4)),
                codes(divide(5, 0, 1)));
        dueAtom("a / (b + 1)", constant(4, 1), add(4, 4, 1), divide(5, 0, 4));
    }

    private static void loadsAndStores() {
        Due.by("Terms", "LOAD: an atom of the place and of how many STOREs there were in the block before");
        dueAtom("LOAD at a", load(5, 0));
        dueAtom("LOAD at 0", constant(4, 0), load(5, 4));
        dueAtom("LOAD at 8", constant(4, 8), load(5, 4));
        due("two places", false, codes(load(5, 0)), codes(load(5, 1)));
        due("places a + b and b + a", true, codes(add(4, 0, 1), load(5, 4)), codes(add(4, 1, 0), load(5, 4)));
        due("places 3 and 4", false, codes(constant(4, 3), load(5, 4)), codes(constant(4, 4), load(5, 4)));
        due("0 and 1 STOREs", false, codes(load(5, 0)), codes(store(1, 1), load(5, 0)));
        due("7 and 7 STOREs", true,
                codes(store(1, 1), store(1, 1), store(1, 1), store(1, 1), store(1, 1), store(1, 1), store(1, 1),
                        load(5, 0)),
                codes(store(1, 2), store(1, 2), store(1, 2), store(1, 2), store(1, 2), store(1, 2), store(1, 2),
                        load(5, 0)));
        due("a STORE behind it", true, codes(load(5, 0), store(1, 1)), codes(load(5, 0)));
        due("what was stored there", false, codes(store(0, 1), load(5, 0)), codes(store(0, 1), move(5, 1)));
        due("0, which memory is at first", false, codes(constant(4, 3), load(5, 4)), codes(constant(5, 0)));
    }

    private static void atomsOfTwoOperations() {
        Due.by("Terms", "A value is a number and a sum of multiples (ints, that wrap) of different ATOMS.");
        for (int one = Programs.MULTIPLY; one <= Programs.LOAD; one++) {
            for (int other = one + 1; other <= Programs.LOAD; other++) {
                for (int b = 0; b < 5; b++) {
                    int a = (b + 1) % 5;
                    due("operations " + one + " and " + other + " of " + a + " and " + b, false,
                            codes(code(one, 5, a, b)), codes(code(other, 5, a, b)));
                }
            }
        }
    }

    /** Nothing of a block that was worked out before counts in the next one. */
    private static void blocksAreWorkedOutAnew() {
        Due.by("Terms", "LOAD: an atom of the place and of how many STOREs there were in the block before");
        PassChecker x = withBlocks(2, 2);
        for (int program = 0; program < 2; program++) {
            x.code(program, 0, Programs.STORE, 0, 1, 1);
            x.code(program, 0, Programs.STORE, 0, 1, 1);
            x.code(program, 1, Programs.LOAD, 5, 0, 0);
        }
        x.code(1, 0, Programs.LOAD, 5, 0, 0);
        for (int i = 0; i < 3; i++) {
            Due.is("effects of two STOREs", x.effects(0, 0), 2);
            Due.is("LOADs in blocks without STOREs", x.same(1, 5, 1, 5), true);
            Due.is("a LOAD behind none and one behind two STOREs", x.same(1, 5, 0, 5), false);
        }
        Due.by("Terms", "Atoms: what a register was when the block began");
        PassChecker y = withBlocks(2, 2);
        for (int register = 0; register < 6; register++) {
            y.code(0, 0, Programs.CONSTANT, register, 0, 4);
            y.code(1, 0, Programs.CONSTANT, register, 0, 5);
        }
        for (int register = 0; register < 6; register++) {
            Due.is("register " + register + " that became 4 and 5", y.same(0, register, 0, register), false);
            Due.is("register " + register + " that is not written", y.same(1, register, 1, register), true);
            Due.is("register " + register + " that became 4", y.same(0, register, 1, register), false);
        }
    }

    private static void asManyAtomsAsTwoFullBlocksMake() {
        Due.by("Terms", "A value is a number and a sum of multiples (ints, that wrap) of different ATOMS.");
        PassChecker x = new PassChecker();
        for (int program = 0; program < 2; program++) {
            x.block(program);
            for (int i = 0; i < 8; i++) {
                x.code(program, 0, program == 0 ? Programs.MULTIPLY : Programs.DIVIDE, 5, 5, i % 5);
            }
        }
        for (int register = 0; register < 6; register++) {
            for (int second = 0; second < 6; second++) {
                Due.is("registers " + register + " and " + second, x.same(0, register, 0, second),
                        register == second && register < 5);
            }
        }
        x.take();
        Due.is("the same eight atoms", x.same(0, 5, 0, 5), true);
    }

    private static void effectsOfNoBlock() {
        Due.by("Promise 13", "IndexOutOfBoundsException if there is no such program or block.");
        for (int program : Edges.outside(2)) {
            Edges.refuses("effects(" + program + ", 0)", Edges.INDEX, x -> x.effects(program, 0));
        }
        for (int block : Edges.outside(2)) {
            Edges.refuses("effects(0, " + block + ")", Edges.INDEX, x -> x.effects(0, block));
        }
        Edges.refuses("effects(1, 1), the source's alone", Edges.INDEX, x -> x.effects(1, 1));
        for (int block : Edges.outside(6)) {
            Edges.refuses("effects(1, " + block + ") of six", Edges.INDEX, () -> withBlocks(0, 6),
                    x -> x.effects(1, block));
        }
        Edges.refuses("effects(0, 0) of none", Edges.INDEX, () -> withBlocks(0, 6), x -> x.effects(0, 0));
    }

    private static void effectsOfAnEmptyBlock() {
        Due.by("Promise 13", "How many effects a block of a program has, worked out so.");
        dueEffects("an empty block", 0);
        dueEffects("a block of others", 0, constant(0, 1), move(1, 0), add(2, 0, 3), subtract(2, 0, 3),
                multiply(2, 0, 3), code(Programs.AND, 2, 0, 3), code(Programs.LESS, 2, 0, 3));
        PassChecker x = withBlocks(6, 6);
        x.code(1, 5, Programs.STORE, 0, 0, 0);
        for (int block = 0; block < 6; block++) {
            Due.is("effects(0, " + block + ")", x.effects(0, block), 0);
            Due.is("effects(1, " + block + ")", x.effects(1, block), block == 5 ? 1 : 0);
        }
    }

    private static void effectsOfAFullBlock() {
        Due.by("Promise 13", "How many effects a block of a program has, worked out so.");
        dueEffects("eight STOREs", 8, store(0, 0), store(0, 0), store(0, 0), store(0, 0), store(0, 0), store(0, 0),
                store(0, 0), store(0, 0));
        dueEffects("eight /", 8, divide(5, 5, 0), divide(5, 5, 0), divide(5, 5, 0), divide(5, 5, 0),
                divide(5, 5, 0), divide(5, 5, 0), divide(5, 5, 0), divide(5, 5, 0));
        dueEffects("eight LOADs", 8, load(5, 5), load(5, 5), load(5, 5), load(5, 5), load(5, 5), load(5, 5),
                load(5, 5), load(5, 5));
    }

    private static void effectsOfQuotients() {
        Due.by("Terms", "by anything else an atom of both, and an EFFECT");
        for (int number : new int[] {1, -1, 2, Edges.LEAST, Edges.GREATEST}) {
            dueEffects("a / " + number, 0, constant(4, number), divide(5, 0, 4));
            dueEffects("7 / " + number, 0, constant(4, number), constant(3, 7), divide(5, 3, 4));
        }
        dueEffects("a / 0", 1, constant(4, 0), divide(5, 0, 4));
        dueEffects("7 / 0", 1, constant(3, 7), constant(4, 0), divide(5, 3, 4));
        dueEffects("a / b", 1, divide(5, 0, 1));
        dueEffects("0 / b", 1, constant(4, 0), divide(5, 4, 1));
        dueEffects("a / (b + 1)", 1, constant(4, 1), add(4, 4, 1), divide(5, 0, 4));
        dueEffects("a / (b - b + 2)", 0, subtract(4, 1, 1), constant(3, 2), add(4, 4, 3), divide(5, 0, 4));
        dueEffects("a / what wrapped around to 0", 1, constant(4, Edges.LEAST), add(4, 4, 4), divide(5, 0, 4));
    }

    private static void effectsOfQuotientsBefore() {
        Due.by("Terms", "unless that atom was an effect of the block before");
        dueEffects("a / b twice", 1, divide(5, 0, 1), divide(4, 0, 1));
        dueEffects("a / b twice, of values that are the same", 1, divide(5, 0, 1), move(3, 0), move(4, 1),
                divide(2, 3, 4));
        dueEffects("a / b twice, a STORE between", 2, divide(5, 0, 1), store(2, 2), divide(4, 0, 1));
        dueEffects("a / b and a / c and a / b", 2, divide(5, 0, 1), divide(5, 0, 2), divide(4, 0, 1));
        dueEffects("a / b and b / a", 2, divide(5, 0, 1), divide(4, 1, 0));
        dueEffects("a / b, b written, a / b", 2, divide(5, 0, 1), move(1, 2), divide(4, 0, 1), divide(4, 0, 2));
        dueEffects("7 / 0 twice", 1, constant(3, 7), constant(4, 0), divide(5, 3, 4), divide(5, 3, 4));
        dueEffects("a / b twice behind six STOREs", 7, store(0, 0), store(0, 0), store(0, 0), store(0, 0),
                store(0, 0), store(0, 0), divide(5, 0, 1), divide(4, 0, 1));
        dueEffects("a / b before and behind six STOREs", 7, divide(5, 0, 1), store(0, 0), store(0, 0), store(0, 0),
                store(0, 0), store(0, 0), store(0, 0), divide(4, 0, 1));
        PassChecker x = withBlocks(2, 0);
        for (int block = 0; block < 2; block++) {
            x.code(0, block, Programs.DIVIDE, 5, 0, 1);
            x.end(0, block, Programs.GO, 0, 1, 0);
        }
        Due.is("in another block", x.effects(0, 1), 1);
    }

    private static void effectsOfLoads() {
        Due.by("Terms", "and an effect, unless the place is a number 0 .. 7");
        for (int place = -1; place <= 8; place++) {
            dueEffects("LOAD at " + place, place < 0 || place > 7 ? 1 : 0, constant(4, place), load(5, 4));
        }
        for (int place : new int[] {Edges.LEAST, Edges.GREATEST}) {
            dueEffects("LOAD at " + place, 1, constant(4, place), load(5, 4));
        }
        dueEffects("LOAD at a", 1, load(5, 0));
        dueEffects("LOAD at a + 3", 1, constant(4, 3), add(4, 4, 0), load(5, 4));
        dueEffects("LOAD at a - a + 7", 0, constant(4, 7), add(4, 4, 0), subtract(4, 4, 0), load(5, 4));
        dueEffects("LOAD at what wrapped around to 0", 0, constant(4, Edges.LEAST), add(4, 4, 4), load(5, 4));
    }

    private static void effectsOfLoadsBefore() {
        Due.by("Terms", "or that atom was made in the block before");
        dueEffects("LOAD at a twice", 1, load(5, 0), load(4, 0));
        dueEffects("LOAD at a twice, of values that are the same", 1, load(5, 0), move(3, 0), load(4, 3));
        dueEffects("LOAD at 8 twice", 1, constant(4, 8), load(5, 4), load(5, 4));
        dueEffects("LOAD at a, b and a", 2, load(5, 0), load(5, 1), load(4, 0));
        dueEffects("LOAD at a twice, a STORE between", 3, load(5, 0), store(1, 1), load(4, 0));
        dueEffects("LOAD at a twice behind six STOREs", 7, store(1, 1), store(1, 1), store(1, 1), store(1, 1),
                store(1, 1), store(1, 1), load(5, 0), load(4, 0));
        dueEffects("LOAD at a twice, a STORE before", 2, store(1, 1), load(5, 0), load(4, 0));
        dueEffects("LOAD at a, a STORE, LOAD at a twice", 3, load(5, 0), store(1, 1), load(4, 0), load(3, 0));
        dueEffects("LOAD at 3 twice, a STORE between", 1, constant(4, 3), load(5, 4), store(1, 1), load(3, 4));
        PassChecker x = withBlocks(2, 0);
        for (int block = 0; block < 2; block++) {
            x.code(0, block, Programs.LOAD, 5, 0, 0);
            x.end(0, block, Programs.GO, 0, 1, 0);
        }
        Due.is("in another block", x.effects(0, 1), 1);
    }

    private static void effectsOfStores() {
        Due.by("Terms", "STORE: an effect, always.");
        for (int place = -1; place <= 8; place++) {
            dueEffects("STORE at " + place, 1, constant(4, place), store(4, 0));
            dueEffects("STORE at " + place + " twice", 2, constant(4, place), store(4, 0), store(4, 0));
        }
        dueEffects("STORE at a", 1, store(0, 0));
        dueEffects("STORE of what was loaded there", 2, load(5, 0), store(0, 5));
    }
}
