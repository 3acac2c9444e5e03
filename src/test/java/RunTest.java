/** Promises 14 to 17: run, returned, word and steps. */
public final class RunTest {
    public static void main(String[] args) {
        operations();
        beginnings();
        memory();
        traps();
        stepsAreLimited();
        ends();
        blocksThatAreNotThere();
        aRefusedRunLeavesTheLatest();
        wordRefusesWrongPlaces();
        Due.finish();
    }

    private static int[] code(int operation, int d, int a, int b) {
        return Programs.code(operation, d, a, b);
    }

    private static void due(String what, PassChecker x, int[] run, int outcome, int returned, int steps) {
        Due.is("run: " + what, x.run(run[0], run[1], run[2], run[3]), outcome);
        Due.is("returned: " + what, x.returned(), returned);
        Due.is("steps: " + what, x.steps(), steps);
    }

    private static int[] run(int program, int first, int second, int steps) {
        return new int[] {program, first, second, steps};
    }

    private static void dueOperation(int operation, int a, int b, int want) {
        PassChecker x = Programs.withSource(code(operation, 5, 0, 1), code(Programs.MOVE, 3, 5, 0));
        x.end(0, 0, Programs.RETURN, 3, 0, 0);
        due(a + " operation " + operation + " " + b, x, run(0, a, b, 3), 1, want, 3);
    }

    private static void operations() {
        dueOperation(Programs.CONSTANT, 7, 7, 1);
        dueOperation(Programs.MOVE, -9, 2, -9);
        dueOperation(Programs.ADD, 9, 4, 13);
        dueOperation(Programs.ADD, Integer.MAX_VALUE, 1, Integer.MIN_VALUE);
        dueOperation(Programs.SUBTRACT, 9, 4, 5);
        dueOperation(Programs.SUBTRACT, Integer.MIN_VALUE, 1, Integer.MAX_VALUE);
        dueOperation(Programs.MULTIPLY, 9, 4, 36);
        dueOperation(Programs.MULTIPLY, 1 << 20, 1 << 20, 0);
        dueOperation(Programs.AND, 12, 10, 8);
        dueOperation(Programs.LESS, 3, 4, 1);
        dueOperation(Programs.LESS, 4, 4, 0);
        dueOperation(Programs.LESS, 4, 3, 0);
        dueOperation(Programs.LESS, Integer.MIN_VALUE, 1, 1);
        dueOperation(Programs.DIVIDE, 9, 4, 2);
        dueOperation(Programs.DIVIDE, -9, 4, -2);
        dueOperation(Programs.DIVIDE, Integer.MIN_VALUE, -1, Integer.MIN_VALUE);
    }

    private static void beginnings() {
        int[] want = {11, 22, 0, 0, 0, 0};
        PassChecker x = Programs.withSource();
        for (int register = 0; register < 6; register++) {
            x.end(0, 0, Programs.RETURN, register, 0, 0);
            due("register " + register + " at first", x, run(0, 11, 22, 1), 1, want[register], 1);
        }
        PassChecker y = Programs.withSource(code(Programs.LOAD, 2, 0, 0), code(Programs.ADD, 5, 5, 1),
                code(Programs.STORE, 0, 0, 5));
        y.end(0, 0, Programs.RETURN, 2, 0, 0);
        for (int i = 0; i < 2; i++) {
            due("every run begins anew", y, run(0, 4, 9, 99), 1, 0, 4);
            Due.is("word(4)", y.word(4), 9);
        }
        due("another place", y, run(0, 5, 8, 99), 1, 0, 4);
        Due.is("word(4) of the latest run", y.word(4), 0);
        Due.is("word(5)", y.word(5), 8);
    }

    private static void memory() {
        PassChecker x = new PassChecker();
        Programs.addBlock(x, 1, code(Programs.STORE, 0, 0, 1), code(Programs.LOAD, 2, 0, 0),
                code(Programs.ADD, 2, 2, 2));
        x.end(1, 0, Programs.RETURN, 2, 0, 0);
        for (int place = 0; place < 8; place++) {
            due("place " + place, x, run(1, place, 21, 99), 1, 42, 4);
            for (int at = 0; at < 8; at++) {
                Due.is("word(" + at + ")", x.word(at), at == place ? 21 : 0);
            }
        }
    }

    private static void traps() {
        PassChecker divide = Programs.withSource(code(Programs.STORE, 0, 1, 0), code(Programs.DIVIDE, 2, 0, 1));
        due("/ by 0", divide, run(0, 6, 0, 99), 2, 0, 1);
        Due.is("memory behind a trap", divide.word(0), 6);
        PassChecker load = Programs.withSource(code(Programs.MOVE, 3, 0, 0), code(Programs.LOAD, 2, 3, 0));
        PassChecker store = Programs.withSource(code(Programs.MOVE, 3, 0, 0), code(Programs.STORE, 0, 3, 1));
        for (int place : new int[] {-1, 8, Integer.MIN_VALUE, Integer.MAX_VALUE}) {
            due("LOAD at " + place, load, run(0, place, 5, 99), 3, 0, 1);
            due("STORE at " + place, store, run(0, place, 5, 99), 4, 0, 1);
        }
        due("no trap", store, run(0, 7, 5, 99), 1, 7, 3);
        due("returned() is 0 again behind a trap", store, run(0, 8, 5, 99), 4, 0, 1);
        due("a trap that is not reached", store, run(0, 8, 5, 1), 0, 0, 1);
    }

    private static void stepsAreLimited() {
        PassChecker x = Programs.withSource(code(Programs.ADD, 0, 0, 1), code(Programs.STORE, 0, 2, 0));
        due("0", x, run(0, 5, 1, 0), 0, 0, 0);
        due("1", x, run(0, 5, 1, 1), 0, 0, 1);
        Due.is("word(0)", x.word(0), 0);
        due("2", x, run(0, 5, 1, 2), 0, 0, 2);
        Due.is("word(0)", x.word(0), 6);
        due("3", x, run(0, 5, 1, 3), 1, 6, 3);
        x.end(0, 0, Programs.GO, 0, 0, 0);
        due("a loop", x, run(0, 5, 1, 500), 0, 0, 500);
        Due.is("word(0)", x.word(0), 5 + 167);
        Due.fails("-1", IllegalArgumentException.class, () -> x.run(0, 0, 0, -1));
        Due.fails("501", IllegalArgumentException.class, () -> x.run(0, 0, 0, 501));
    }

    private static void ends() {
        PassChecker x = Programs.withSource(code(Programs.ADD, 2, 2, 0), code(Programs.CONSTANT, 3, 0, -1),
                code(Programs.ADD, 1, 1, 3));
        x.end(0, 0, Programs.IF, 1, 0, 2);
        Programs.addBlock(x, 0);
        Programs.addBlock(x, 0);
        x.end(0, 1, Programs.RETURN, 2, 0, 0);
        x.end(0, 2, Programs.GO, 0, 1, 0);
        due("7 times 6", x, run(0, 7, 6, 500), 1, 42, 26);
        due("IF of a negative one goes to X", x, run(0, 7, -6, 500), 0, 0, 500);
    }

    private static void blocksThatAreNotThere() {
        due("no blocks", new PassChecker(), run(1, 33, 44, 1), 1, 33, 1);
        due("no blocks and no step", new PassChecker(), run(0, 33, 44, 0), 0, 0, 0);
        PassChecker x = Programs.withSource(code(Programs.CONSTANT, 0, 0, 77));
        x.end(0, 0, Programs.GO, 0, 5, 0);
        due("gone to", x, run(0, 1, 2, 3), 1, 77, 3);
        x.end(0, 0, Programs.IF, 2, 5, 4);
        due("gone to by IF", x, run(0, 1, 2, 3), 1, 77, 3);
        due("gone to without a step left", x, run(0, 1, 2, 2), 0, 0, 2);
    }

    private static void aRefusedRunLeavesTheLatest() {
        PassChecker x = Programs.withSource(code(Programs.STORE, 0, 0, 1));
        due("before", x, run(0, 3, 8, 9), 1, 3, 2);
        for (int program : new int[] {-1, 2}) {
            Due.fails("program " + program, IndexOutOfBoundsException.class, () -> x.run(program, 1, 1, 501));
        }
        Due.fails("501", IllegalArgumentException.class, () -> x.run(0, 1, 1, 501));
        x.wipe(0);
        x.pass(0);
        Due.is("returned()", x.returned(), 3);
        Due.is("steps()", x.steps(), 2);
        Due.is("word(3)", x.word(3), 8);
    }

    private static void wordRefusesWrongPlaces() {
        PassChecker x = new PassChecker();
        for (int at : new int[] {-1, 8, Integer.MIN_VALUE, Integer.MAX_VALUE}) {
            Due.fails("word(" + at + ")", IndexOutOfBoundsException.class, () -> x.word(at));
        }
    }
}
