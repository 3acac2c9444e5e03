/** Promises 10 to 13: check, refused, same and effects. */
public final class CheckTest {
    private static final Class<UnsupportedOperationException> REFUSED = UnsupportedOperationException.class;
    private static final Class<IndexOutOfBoundsException> INDEX = IndexOutOfBoundsException.class;

    public static void main(String[] args) {
        sums();
        wrappedMultiples();
        products();
        ands();
        less();
        quotients();
        loads();
        asManyAtomsAsThereCanBe();
        sameRefusesWrongArguments();
        effectsOfDivision();
        effectsOfLoad();
        effectsOfStore();
        effectsRefusesWrongArguments();
        pairsAreCounted();
        refusedForAnotherPartner();
        refusedForEffects();
        refusedForEnds();
        refusedForRegisters();
        reasonsAreLookedForInOrder();
        pairsAreLookedAtInOrder();
        endsAreWorkedOut();
        blocksThatAreNotThere();
        aChangeMakesItStale();
        refusedRefusesWrongArguments();
        passesAreAccepted();
        Due.finish();
    }

    private static int[] code(int operation, int d, int a, int b) {
        return Programs.code(operation, d, a, b);
    }

    private static int[] constant(int d, int number) {
        return code(Programs.CONSTANT, d, 0, number);
    }

    /** Whether register 5 is the same behind two blocks of these instructions. */
    private static void dueSame(String what, boolean want, int[][] source, int[][] target) {
        PassChecker x = Programs.withSource(source);
        Programs.addBlock(x, 1, target);
        Due.is("same: " + what, x.same(0, 5, 0, 5), want);
    }

    private static int[][] codes(int[]... codes) {
        return codes;
    }

    private static void sums() {
        dueSame("a + b and b + a", true, codes(code(Programs.ADD, 5, 0, 1)), codes(code(Programs.ADD, 5, 1, 0)));
        dueSame("a - b and b - a", false, codes(code(Programs.SUBTRACT, 5, 0, 1)),
                codes(code(Programs.SUBTRACT, 5, 1, 0)));
        dueSame("a + b - b and a", true, codes(code(Programs.ADD, 5, 0, 1), code(Programs.SUBTRACT, 5, 5, 1)),
                codes(code(Programs.MOVE, 5, 0, 0)));
        dueSame("a - a and 0", true, codes(code(Programs.SUBTRACT, 5, 0, 0)), codes(constant(5, 0)));
        dueSame("a + 1 and a", false, codes(constant(4, 1), code(Programs.ADD, 5, 0, 4)),
                codes(code(Programs.MOVE, 5, 0, 0)));
        dueSame("a + a and a", false, codes(code(Programs.ADD, 5, 0, 0)), codes(code(Programs.MOVE, 5, 0, 0)));
        dueSame("a and b", false, codes(code(Programs.MOVE, 5, 0, 0)), codes(code(Programs.MOVE, 5, 1, 0)));
        PassChecker x = Programs.withSource(code(Programs.MOVE, 3, 1, 0));
        Programs.addBlock(x, 1);
        Programs.addBlock(x, 1, code(Programs.MOVE, 4, 1, 0));
        Due.is("register 3 and another block's 4", x.same(0, 3, 1, 4), true);
        Due.is("register 3 and another block's 3", x.same(0, 3, 1, 3), false);
        Due.is("register 3 and the block's 1", x.same(0, 3, 0, 1), true);
    }

    private static void wrappedMultiples() {
        dueSame("half of all times a, twice, and 0", true,
                codes(constant(4, Integer.MIN_VALUE), code(Programs.MULTIPLY, 5, 0, 4), code(Programs.ADD, 5, 5, 5)),
                codes(constant(5, 0)));
        dueSame("half of all times a and 0", false,
                codes(constant(4, Integer.MIN_VALUE), code(Programs.MULTIPLY, 5, 0, 4)), codes(constant(5, 0)));
        dueSame("an atom behind a number", true, codes(constant(4, 9), code(Programs.AND, 5, 0, 1)),
                codes(code(Programs.AND, 5, 0, 1)));
        dueSame("numbers wrap", true,
                codes(constant(4, Integer.MAX_VALUE), constant(3, 1), code(Programs.ADD, 5, 4, 3)),
                codes(constant(5, Integer.MIN_VALUE)));
    }

    private static void products() {
        dueSame("a * 2 and a + a", true, codes(constant(4, 2), code(Programs.MULTIPLY, 5, 0, 4)),
                codes(code(Programs.ADD, 5, 0, 0)));
        dueSame("2 * a and a + a", true, codes(constant(4, 2), code(Programs.MULTIPLY, 5, 4, 0)),
                codes(code(Programs.ADD, 5, 0, 0)));
        dueSame("0 * a and 0", true, codes(constant(4, 0), code(Programs.MULTIPLY, 5, 4, 0)), codes(constant(5, 0)));
        dueSame("3 * (a + 1) and a + a + a + 3", true,
                codes(constant(4, 1), code(Programs.ADD, 5, 0, 4), constant(4, 3), code(Programs.MULTIPLY, 5, 5, 4)),
                codes(constant(4, 3), code(Programs.ADD, 5, 0, 0), code(Programs.ADD, 5, 5, 0),
                        code(Programs.ADD, 5, 5, 4)));
        dueSame("a * b and b * a", true, codes(code(Programs.MULTIPLY, 5, 0, 1)),
                codes(code(Programs.MULTIPLY, 5, 1, 0)));
        for (int operation : new int[] {Programs.MULTIPLY, Programs.AND}) {
            for (int a = 0; a < 2; a++) {
                dueSame("another A or B of " + operation, false, codes(code(operation, 5, a, 1)),
                        codes(code(operation, 5, a, 2)));
                dueSame("another A or B of " + operation, false, codes(code(operation, 5, 4, a)),
                        codes(code(operation, 5, 3, a)));
                dueSame("another A or B of " + operation, false, codes(code(operation, 5, a, 3)),
                        codes(code(operation, 5, 2, 3)));
            }
        }
        dueSame("a * b and a & b", false, codes(code(Programs.MULTIPLY, 5, 0, 1)), codes(code(Programs.AND, 5, 0, 1)));
        dueSame("(a + b) * c and a * c + b * c are two", false,
                codes(code(Programs.ADD, 5, 0, 1), code(Programs.MULTIPLY, 5, 5, 2)),
                codes(code(Programs.MULTIPLY, 4, 0, 2), code(Programs.MULTIPLY, 5, 1, 2), code(Programs.ADD, 5, 5, 4)));
        dueSame("(a + b) * c and c * (b + a)", true,
                codes(code(Programs.ADD, 5, 0, 1), code(Programs.MULTIPLY, 5, 5, 2)),
                codes(code(Programs.ADD, 4, 1, 0), code(Programs.MULTIPLY, 5, 2, 4)));
    }

    private static void ands() {
        dueSame("6 & 3 and 2", true, codes(constant(3, 6), constant(4, 3), code(Programs.AND, 5, 3, 4)),
                codes(constant(5, 2)));
        dueSame("a & a and a", true, codes(code(Programs.AND, 5, 0, 0)), codes(code(Programs.MOVE, 5, 0, 0)));
        dueSame("a & b and b & a", true, codes(code(Programs.AND, 5, 0, 1)), codes(code(Programs.AND, 5, 1, 0)));
        for (int a = 0; a < 2; a++) {
            dueSame("& with 0", true, codes(constant(1, 0), code(Programs.AND, 5, a, 1 - a)), codes(constant(5, 0)));
            dueSame("& with -1", true, codes(constant(1, -1), code(Programs.AND, 5, a, 1 - a)),
                    codes(code(Programs.MOVE, 5, 0, 0)));
            dueSame("& with 1 is an atom", false, codes(constant(1, 1), code(Programs.AND, 5, a, 1 - a)),
                    codes(code(Programs.MOVE, 5, 0, 0)));
        }
        dueSame("a & (b - 1) is not with -1", false,
                codes(constant(4, 1), code(Programs.SUBTRACT, 4, 1, 4), code(Programs.AND, 5, 0, 4)),
                        codes(code(Programs.MOVE, 5, 0, 0)));
        dueSame("a & (b + 0) is not with 0", false, codes(code(Programs.AND, 5, 0, 1)), codes(constant(5, 0)));
    }

    private static void less() {
        dueSame("2 < 3 and 1", true, codes(constant(3, 2), constant(4, 3), code(Programs.LESS, 5, 3, 4)),
                codes(constant(5, 1)));
        dueSame("3 < 2 and 0", true, codes(constant(3, 2), constant(4, 3), code(Programs.LESS, 5, 4, 3)),
                codes(constant(5, 0)));
        dueSame("-1 < 0 and 1", true, codes(constant(3, -1), constant(4, 0), code(Programs.LESS, 5, 3, 4)),
                codes(constant(5, 1)));
        dueSame("a < a and 0", true, codes(code(Programs.LESS, 5, 0, 0)), codes(constant(5, 0)));
        dueSame("a < b and a < b", true, codes(code(Programs.LESS, 5, 0, 1)), codes(code(Programs.LESS, 5, 0, 1)));
        dueSame("a < b and b < a", false, codes(code(Programs.LESS, 5, 0, 1)), codes(code(Programs.LESS, 5, 1, 0)));
        dueSame("a < a + 1 is an atom", false, codes(constant(4, 1), code(Programs.ADD, 4, 0, 4),
                code(Programs.LESS, 5, 0, 4)),
                codes(constant(5, 1)));
    }

    private static void quotients() {
        dueSame("7 / 2 and 3", true, codes(constant(3, 7), constant(4, 2), code(Programs.DIVIDE, 5, 3, 4)),
                codes(constant(5, 3)));
        dueSame("least / -1 and least", true,
                codes(constant(3, Integer.MIN_VALUE), constant(4, -1), code(Programs.DIVIDE, 5, 3, 4)),
                codes(constant(5, Integer.MIN_VALUE)));
        dueSame("a / 1 and a", true, codes(constant(4, 1), code(Programs.DIVIDE, 5, 0, 4)),
                codes(code(Programs.MOVE, 5, 0, 0)));
        dueSame("a / 2 and a / 2", true, codes(constant(4, 2), code(Programs.DIVIDE, 5, 0, 4)),
                codes(constant(3, 2), code(Programs.DIVIDE, 5, 0, 3)));
        dueSame("(a + a) / 2 is an atom", false, codes(constant(4, 2), code(Programs.ADD, 5, 0, 0),
                code(Programs.DIVIDE, 5, 5, 4)),
                codes(code(Programs.MOVE, 5, 0, 0)));
        dueSame("a / b and b / a", false, codes(code(Programs.DIVIDE, 5, 0, 1)), codes(code(Programs.DIVIDE, 5, 1, 0)));
        dueSame("a / a is an atom", false, codes(code(Programs.DIVIDE, 5, 0, 0)), codes(constant(5, 1)));
        dueSame("0 / a is an atom", false, codes(constant(4, 0), code(Programs.DIVIDE, 5, 4, 0)),
                codes(constant(5, 0)));
        dueSame("1 / 0 is an atom", true, codes(constant(3, 1), constant(4, 0), code(Programs.DIVIDE, 5, 3, 4)),
                codes(constant(1, 1), constant(2, 0), code(Programs.DIVIDE, 5, 1, 2)));
        dueSame("1 / 0 and 0", false, codes(constant(3, 1), constant(4, 0), code(Programs.DIVIDE, 5, 3, 4)),
                codes(constant(5, 0)));
        dueSame("a / (b + 1) is not by 1", false,
                codes(constant(4, 1), code(Programs.ADD, 4, 1, 4), code(Programs.DIVIDE, 5, 0, 4)),
                        codes(code(Programs.MOVE, 5, 0, 0)));
    }

    private static void loads() {
        dueSame("the same place", true, codes(code(Programs.LOAD, 5, 0, 0)), codes(code(Programs.LOAD, 5, 0, 0)));
        dueSame("another place", false, codes(code(Programs.LOAD, 5, 0, 0)), codes(code(Programs.LOAD, 5, 1, 0)));
        dueSame("a STORE between", false, codes(code(Programs.LOAD, 5, 0, 0)),
                codes(code(Programs.STORE, 0, 1, 1), code(Programs.LOAD, 5, 0, 0)));
        dueSame("as many STOREs", true, codes(code(Programs.STORE, 0, 2, 2), code(Programs.LOAD, 5, 0, 0)),
                codes(code(Programs.STORE, 0, 1, 1), code(Programs.LOAD, 5, 0, 0)));
        PassChecker x = Programs.withSource(code(Programs.STORE, 0, 2, 2));
        Programs.addBlock(x, 0, code(Programs.LOAD, 5, 0, 0));
        Programs.addBlock(x, 1, code(Programs.LOAD, 5, 0, 0));
        Due.is("same of the block that stores", x.same(0, 5, 0, 5), false);
        Due.is("another block's STORE does not count", x.same(1, 5, 0, 5), true);
        dueSame("a STORE is not seen through", false, codes(code(Programs.STORE, 0, 0, 1),
                code(Programs.LOAD, 5, 0, 0)),
                codes(code(Programs.STORE, 0, 0, 1), code(Programs.MOVE, 5, 1, 0)));
    }

    /** Sixteen instructions, each with an atom of its own. */
    private static void asManyAtomsAsThereCanBe() {
        PassChecker x = new PassChecker();
        int[] operations = {Programs.LESS, Programs.DIVIDE};
        for (int program = 0; program < 2; program++) {
            x.block(program);
            for (int i = 0; i < 8; i++) {
                x.code(program, 0, operations[program], 5, i % 4, (i % 4 + 1 + i / 4) % 5);
            }
        }
        for (int register = 0; register < 6; register++) {
            Due.is("the last atom and register " + register, x.same(0, register, 0, 5), false);
            Due.is("the source's last atom and register " + register, x.same(0, 5, 0, register), false);
        }
        Due.is("registers that are not written", x.same(0, 0, 0, 0), true);
        Due.is("effects", x.effects(1, 0), 8);
    }

    private static void sameRefusesWrongArguments() {
        PassChecker x = Programs.withSource();
        Programs.addBlock(x, 1);
        Programs.addBlock(x, 1);
        Due.is("same of bare blocks", x.same(0, 5, 1, 5), true);
        for (int register : new int[] {-1, 6}) {
            Due.fails("register " + register, INDEX, () -> x.same(0, register, 0, 0));
            Due.fails("second " + register, INDEX, () -> x.same(0, 0, 0, register));
        }
        for (int block : new int[] {-1, 2, 6}) {
            Due.fails("block " + block, INDEX, () -> x.same(block, 0, 0, 0));
            Due.fails("other " + block, INDEX, () -> x.same(0, 0, block, 0));
        }
        Due.fails("block 1 is the target's alone", INDEX, () -> x.same(1, 0, 1, 0));
    }

    private static void dueEffects(String what, int want, int[]... codes) {
        PassChecker x = new PassChecker();
        for (int program = 0; program < 2; program++) {
            Programs.addBlock(x, program, codes);
            Due.is("effects: " + what, x.effects(program, 0), want);
        }
    }

    private static void effectsOfDivision() {
        dueEffects("none", 0);
        dueEffects("a / b", 1, code(Programs.DIVIDE, 2, 0, 1));
        dueEffects("a / b twice", 1, code(Programs.DIVIDE, 2, 0, 1), code(Programs.DIVIDE, 3, 0, 1));
        dueEffects("a / b twice, a STORE between", 2,
                code(Programs.DIVIDE, 2, 0, 1), code(Programs.STORE, 0, 0, 1), code(Programs.DIVIDE, 3, 0, 1));
        dueEffects("a / b and b / a", 2, code(Programs.DIVIDE, 2, 0, 1), code(Programs.DIVIDE, 3, 1, 0));
        dueEffects("a / 2", 0, constant(1, 2), code(Programs.DIVIDE, 2, 0, 1));
        dueEffects("a / 1", 0, constant(1, 1), code(Programs.DIVIDE, 2, 0, 1));
        dueEffects("a / 0", 1, constant(1, 0), code(Programs.DIVIDE, 2, 0, 1));
        dueEffects("1 / 0 twice", 1, constant(0, 1), constant(1, 0), code(Programs.DIVIDE, 2, 0, 1),
                code(Programs.DIVIDE, 3, 0, 1));
    }

    private static void effectsOfLoad() {
        dueEffects("at a", 1, code(Programs.LOAD, 2, 0, 0));
        dueEffects("at a twice", 1, code(Programs.LOAD, 2, 0, 0), code(Programs.LOAD, 3, 0, 0));
        dueEffects("at a twice, a STORE between", 3,
                code(Programs.LOAD, 2, 0, 0), code(Programs.STORE, 0, 0, 1), code(Programs.LOAD, 3, 0, 0));
        dueEffects("at a and b", 2, code(Programs.LOAD, 2, 0, 0), code(Programs.LOAD, 3, 1, 0));
        for (int place : new int[] {0, 7}) {
            dueEffects("at " + place, 0, constant(0, place), code(Programs.LOAD, 2, 0, 0));
        }
        for (int place : new int[] {-1, 8}) {
            dueEffects("at " + place, 1, constant(0, place), code(Programs.LOAD, 2, 0, 0),
                    code(Programs.LOAD, 2, 0, 0));
        }
        dueEffects("at a + 3", 1, constant(1, 3), code(Programs.ADD, 1, 1, 0), code(Programs.LOAD, 2, 1, 0));
    }

    private static void effectsOfStore() {
        dueEffects("twice the same", 2, code(Programs.STORE, 0, 0, 1), code(Programs.STORE, 0, 0, 1));
        dueEffects("at 3", 1, constant(0, 3), code(Programs.STORE, 0, 0, 1));
        int[] store = code(Programs.STORE, 0, 0, 1);
        dueEffects("eight", 8, store, store, store, store, store, store, store, store);
    }

    private static void effectsRefusesWrongArguments() {
        PassChecker x = Programs.withSource();
        for (int program : new int[] {-1, 2}) {
            Due.fails("program " + program, INDEX, () -> x.effects(program, 0));
        }
        for (int block : new int[] {-1, 1, 6}) {
            Due.fails("block " + block, INDEX, () -> x.effects(0, block));
        }
        Due.fails("a target without blocks", INDEX, () -> x.effects(1, 0));
    }

    /** Programs of bare blocks, each with an end of kind, A, X, Y. */
    private static PassChecker bare(int[][] source, int[][] target) {
        PassChecker x = new PassChecker();
        int[][][] programs = {source, target};
        for (int program = 0; program < 2; program++) {
            for (int[] end : programs[program]) {
                int block = x.block(program);
                x.end(program, block, end[0], end[1], end[2], end[3]);
            }
        }
        return x;
    }

    private static int[] go(int goal) {
        return new int[] {Programs.GO, 0, goal, 0};
    }

    private static int[] when(int a, int goal, int otherwise) {
        return new int[] {Programs.IF, a, goal, otherwise};
    }

    private static int[] back(int a) {
        return new int[] {Programs.RETURN, a, 0, 0};
    }

    private static void dueRefused(String what, PassChecker x, int reason, int block, int partner) {
        Due.fails("check: " + what, REFUSED, x::check);
        Due.is("reason: " + what, x.refused(0), reason);
        Due.is("source's block: " + what, x.refused(1), block);
        Due.is("target's block: " + what, x.refused(2), partner);
    }

    private static void dueAccepted(String what, PassChecker x, int pairs) {
        Due.is("check: " + what, x.check(), pairs);
        Due.is("reason: " + what, x.refused(0), 0);
        Due.is("source's block: " + what, x.refused(1), -1);
        Due.is("target's block: " + what, x.refused(2), -1);
    }

    private static void pairsAreCounted() {
        dueAccepted("one", bare(codes(back(1)), codes(back(1))), 1);
        dueAccepted("a loop", bare(codes(go(0)), codes(go(0))), 1);
        dueAccepted("other numbers", bare(codes(go(1), go(2), back(3)), codes(go(2), back(3), go(1))), 3);
        dueAccepted("not reached", bare(codes(go(2), back(1), back(2)), codes(go(1), back(2))), 2);
        dueAccepted("all six", bare(codes(when(0, 1, 2), when(1, 3, 4), go(5), back(1), back(2), back(3)),
                codes(when(0, 2, 1), go(5), when(1, 4, 3), back(2), back(1), back(3))), 6);
        dueAccepted("a target's block for two of the source's", bare(codes(go(1), go(0)), codes(go(0))), 2);
    }

    private static void refusedForAnotherPartner() {
        dueRefused("a loop that is longer", bare(codes(go(0)), codes(go(1), go(0))), 1, 0, 1);
        dueRefused("as Y", bare(codes(when(0, 1, 0), back(0)), codes(when(0, 1, 2), back(0), back(0))), 1, 0, 2);
        dueRefused("X before Y", bare(codes(go(1), when(0, 0, 1)), codes(go(1), when(0, 2, 3))), 1, 0, 2);
        dueRefused("one that waits", bare(codes(when(0, 1, 2), go(2), back(0)),
                codes(when(0, 1, 2), go(3), back(0), back(0))), 1, 2, 3);
        dueRefused("before those that wait", bare(codes(when(0, 1, 2), go(2), back(0)),
                codes(when(0, 1, 2), go(3), back(4), back(0))), 1, 2, 3);
    }

    private static void refusedForEffects() {
        int[][][] sources = {
            codes(code(Programs.STORE, 0, 0, 1)),
            codes(code(Programs.STORE, 0, 0, 1)),
            codes(code(Programs.STORE, 0, 0, 1)),
            codes(code(Programs.STORE, 0, 0, 1), code(Programs.STORE, 0, 1, 0)),
            codes(code(Programs.LOAD, 2, 0, 0)),
            codes(code(Programs.LOAD, 2, 0, 0)),
            codes(code(Programs.DIVIDE, 2, 0, 1)),
            codes(code(Programs.DIVIDE, 2, 0, 1)),
            codes(code(Programs.STORE, 0, 0, 1), code(Programs.LOAD, 2, 0, 0)),
        };
        int[][][] targets = {
            codes(),
            codes(code(Programs.STORE, 0, 2, 1)),
            codes(code(Programs.STORE, 0, 0, 2)),
            codes(code(Programs.STORE, 0, 1, 0), code(Programs.STORE, 0, 0, 1)),
            codes(),
            codes(code(Programs.LOAD, 2, 1, 0)),
            codes(code(Programs.DIVIDE, 2, 1, 0)),
            codes(code(Programs.STORE, 0, 0, 1)),
            codes(code(Programs.LOAD, 2, 0, 0), code(Programs.STORE, 0, 0, 1)),
        };
        for (int i = 0; i < sources.length; i++) {
            PassChecker x = Programs.withSource(sources[i]);
            Programs.addBlock(x, 1, targets[i]);
            dueRefused("effects " + i, x, 2, 0, 0);
        }
        PassChecker x = Programs.withSource(code(Programs.LOAD, 2, 0, 0), code(Programs.DIVIDE, 3, 0, 1));
        Programs.addBlock(x, 1, code(Programs.LOAD, 4, 0, 0), code(Programs.DIVIDE, 5, 0, 1),
                code(Programs.LOAD, 2, 0, 0));
        dueAccepted("the same effects", x, 1);
    }

    private static void refusedForEnds() {
        dueRefused("another value", bare(codes(back(0)), codes(back(1))), 3, 0, 0);
        dueRefused("GO and RETURN", bare(codes(go(1)), codes(back(0))), 3, 0, 0);
        dueRefused("IF and GO", bare(codes(when(0, 1, 2)), codes(go(1))), 3, 0, 0);
        dueRefused("IF of another value", bare(codes(when(0, 1, 2)), codes(when(1, 1, 2))), 3, 0, 0);
        dueRefused("behind another pair", bare(codes(go(3), go(0), go(0), back(2)), codes(go(1), back(3))), 3, 3, 1);
    }

    private static void refusedForRegisters() {
        PassChecker x = Programs.withSource();
        Programs.addBlock(x, 1, constant(5, 1));
        dueAccepted("another register behind RETURN", x, 1);
        x.end(0, 0, Programs.GO, 0, 1, 0);
        x.end(1, 0, Programs.GO, 0, 1, 0);
        dueRefused("another register behind GO", x, 4, 0, 0);
        x.end(0, 0, Programs.IF, 0, 1, 2);
        x.end(1, 0, Programs.IF, 0, 1, 2);
        dueRefused("another register behind IF", x, 4, 0, 0);
        x.code(0, 0, Programs.CONSTANT, 5, 0, 1);
        dueAccepted("the same register", x, 3);
        for (int register = 0; register < 6; register++) {
            PassChecker y = bare(codes(go(1)), codes(go(1)));
            y.code(1, 0, Programs.CONSTANT, register, 0, 1);
            dueRefused("register " + register, y, 4, 0, 0);
        }
    }

    private static void reasonsAreLookedForInOrder() {
        PassChecker x = Programs.withSource(code(Programs.STORE, 0, 0, 1), constant(2, 1));
        x.end(0, 0, Programs.GO, 0, 0, 0);
        Programs.addBlock(x, 1);
        x.end(1, 0, Programs.IF, 0, 1, 0);
        dueRefused("effects before ends", x, 2, 0, 0);
        x.code(1, 0, Programs.STORE, 0, 0, 1);
        dueRefused("ends before registers", x, 3, 0, 0);
        x.end(1, 0, Programs.GO, 0, 1, 0);
        dueRefused("registers before the next pair", x, 4, 0, 0);
        x.code(1, 0, Programs.CONSTANT, 2, 0, 1);
        dueRefused("the next pair's partner", x, 1, 0, 1);
        x.end(1, 0, Programs.GO, 0, 0, 0);
        dueAccepted("none", x, 1);
    }

    private static void pairsAreLookedAtInOrder() {
        PassChecker x = bare(codes(when(0, 2, 1), back(1), go(3), back(1)),
                codes(when(0, 2, 1), back(2), go(3), back(2)));
        dueRefused("a pair's Y before what X goes to", x, 3, 1, 1);
        x.end(1, 1, Programs.RETURN, 1, 0, 0);
        dueRefused("what X goes to", x, 3, 3, 3);
        x.end(1, 2, Programs.RETURN, 1, 0, 0);
        dueRefused("a pair's X", x, 3, 2, 2);
        x.end(1, 1, Programs.RETURN, 2, 0, 0);
        dueRefused("a pair's X before its Y", x, 3, 2, 2);
    }

    private static void endsAreWorkedOut() {
        for (int number = -1; number <= 1; number++) {
            PassChecker x = Programs.withSource(constant(3, number));
            x.end(0, 0, Programs.IF, 3, 1, 2);
            Programs.addBlock(x, 1, constant(3, number));
            x.end(1, 0, Programs.GO, 0, number != 0 ? 1 : 2, 0);
            dueAccepted("IF of " + number, x, 2);
            dueIfGoesTo(x, number != 0 ? 1 : 2);
        }
        dueAccepted("IF with X as Y", bare(codes(when(1, 3, 3)), codes(go(4))), 2);
        dueAccepted("IF with X as Y, another value", bare(codes(when(1, 3, 3)), codes(when(2, 4, 4))), 2);
        PassChecker x = Programs.withSource(constant(3, 0), code(Programs.ADD, 3, 0, 3));
        x.end(0, 0, Programs.IF, 3, 1, 2);
        Programs.addBlock(x, 1, code(Programs.MOVE, 3, 0, 0));
        x.end(1, 0, Programs.IF, 0, 1, 2);
        dueAccepted("IF of the same value in another register", x, 3);
    }

    /** Makes the block that the IF goes to return another register than the target's. */
    private static void dueIfGoesTo(PassChecker x, int goal) {
        x.block(0);
        x.block(0);
        x.end(0, 3 - goal, Programs.RETURN, 5, 0, 0);
        dueAccepted("the other goal is not looked at", x, 2);
        x.end(0, goal, Programs.RETURN, 5, 0, 0);
        dueRefused("the goal is looked at", x, 3, goal, goal);
    }

    private static void blocksThatAreNotThere() {
        dueAccepted("no blocks", new PassChecker(), 1);
        dueAccepted("none in the target", bare(codes(back(0)), codes()), 1);
        dueRefused("none in the target, another register", bare(codes(back(1)), codes()), 3, 0, 0);
        dueAccepted("goals that are not there", bare(codes(when(0, 5, 4)), codes(when(0, 1, 2))), 3);
        dueRefused("a goal that is not there", bare(codes(go(1), back(1)), codes(go(1))), 3, 1, 1);
    }

    private static void aChangeMakesItStale() {
        PassChecker x = bare(codes(back(0)), codes(back(1)));
        Runnable[] changes = {() -> x.block(0), () -> x.block(1), () -> x.code(0, 0, 1, 2, 2, 0),
                () -> x.code(1, 0, 1, 2, 2, 0),
            () -> x.end(0, 0, 2, 2, 0, 0), () -> x.end(1, 0, 2, 1, 0, 0), () -> x.end(1, 0, 2, 1, 0, 0)};
        for (int i = 0; i < changes.length; i++) {
            dueRefused("before change " + i, x, 3, 0, 0);
            changes[i].run();
            Due.is("reason behind change " + i, x.refused(0), -1);
            Due.is("source's block behind change " + i, x.refused(1), 0);
            Due.is("target's block behind change " + i, x.refused(2), 0);
        }
        x.pass(1);
        Runnable[] copies = {() -> x.pass(0), () -> x.pass(1), () -> x.pass(2), () -> x.take(), () -> x.wipe(1),
                () -> x.wipe(0)};
        for (int i = 0; i < copies.length; i++) {
            Due.is("refused before pass, take or wipe " + i, checkAnyway(x) >= 0, true);
            copies[i].run();
            Due.is("reason behind pass, take or wipe " + i, x.refused(0), -1);
        }
        readsAndRefusedCallsChangeNothing();
    }

    private static int checkAnyway(PassChecker x) {
        try {
            x.check();
        } catch (UnsupportedOperationException refused) {
            return x.refused(0);
        }
        return x.refused(0);
    }

    private static void readsAndRefusedCallsChangeNothing() {
        PassChecker x = bare(codes(back(0), go(0), go(1), go(2), go(3), go(4)), codes(back(1)));
        dueRefused("before reads", x, 3, 0, 0);
        x.run(0, 1, 2, 3);
        x.same(0, 0, 0, 0);
        x.effects(0, 1);
        x.instruction(0, addCode(x), 0, 0);
        dueRefused("again", x, 3, 0, 0);
        Due.fails("block", IllegalStateException.class, () -> x.block(0));
        Due.fails("code", IllegalArgumentException.class, () -> x.code(0, 0, 10, 0, 0, 0));
        Due.fails("pass", IllegalArgumentException.class, () -> x.pass(3));
        Due.fails("wipe", INDEX, () -> {
            x.wipe(2);
            return "nothing";
        });
        Due.fails("end", IllegalArgumentException.class, () -> {
            x.end(0, 0, 3, 0, 0, 0);
            return "nothing";
        });
        x.ending(0, 0, 0);
        x.same(0, 0, 0, 1);
        x.effects(1, 0);
        x.run(1, 0, 0, 9);
        Due.is("the check still holds", x.refused(0), 3);
        Due.is("the source's block still holds", x.refused(1), 0);
    }

    private static int addCode(PassChecker x) {
        x.code(0, 5, Programs.MOVE, 0, 0, 0);
        return 5;
    }

    private static void refusedRefusesWrongArguments() {
        PassChecker x = new PassChecker();
        for (int what : new int[] {-1, 3, Integer.MIN_VALUE, Integer.MAX_VALUE}) {
            Due.fails("refused(" + what + ")", IllegalArgumentException.class, () -> x.refused(what));
        }
    }

    private static void passesAreAccepted() {
        PassChecker x = Programs.withSource(constant(2, 6), code(Programs.ADD, 3, 0, 1),
                code(Programs.MULTIPLY, 4, 2, 2),
                code(Programs.ADD, 5, 0, 1), code(Programs.STORE, 0, 2, 4), code(Programs.LOAD, 2, 3, 0),
                code(Programs.LOAD, 3, 3, 0), code(Programs.DIVIDE, 0, 4, 5));
        x.end(0, 0, Programs.IF, 4, 1, 0);
        for (int kind = 0; kind < 3; kind++) {
            Due.is("pass " + kind + " changes something", x.pass(kind) > 0, true);
            dueAccepted("pass " + kind, x, 2);
        }
    }
}
