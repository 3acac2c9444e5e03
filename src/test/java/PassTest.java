/** Promises 6 and 7: pass (FOLD, REUSE, ORDER) and take. */
public final class PassTest {
    private static final int FOLD = 0;
    private static final int REUSE = 1;
    private static final int ORDER = 2;

    public static void main(String[] args) {
        thereAreThreePasses();
        aPassWritesOverTheTarget();
        foldFolds();
        foldForgets();
        foldWraps();
        foldLeavesDivisionByZero();
        foldDecidesIf();
        eachBlockFoldsByItself();
        reuseReuses();
        reuseSeesWrites();
        reuseOfLoad();
        reuseOfSeveral();
        orderByHeight();
        orderTwice();
        orderKeepsDependences();
        orderKeepsTraps();
        orderCountsPlaceByPlace();
        takeCopies();
        Due.finish();
    }

    private static int[] code(int operation, int d, int a, int b) {
        return Programs.code(operation, d, a, b);
    }

    private static void due(String what, int pass, int changes, String want, int[]... codes) {
        PassChecker x = Programs.withSource(codes);
        String before = Programs.codesOf(x, 0, 0);
        Due.is(what + ": changes", x.pass(pass), changes);
        Due.is(what + ": target", Programs.codesOf(x, 1, 0), want);
        Due.is(what + ": source", Programs.codesOf(x, 0, 0), before);
    }

    private static void thereAreThreePasses() {
        PassChecker x = Programs.withSource(code(Programs.CONSTANT, 1, 0, 1));
        for (int kind : new int[] {-1, 3, Integer.MIN_VALUE, Integer.MAX_VALUE}) {
            Due.fails("pass(" + kind + ")", IllegalArgumentException.class, () -> x.pass(kind));
        }
        Due.fails("the target has no block", IndexOutOfBoundsException.class, () -> x.ending(1, 0, 0));
        Due.is("pass of nothing", new PassChecker().pass(FOLD), 0);
    }

    private static void aPassWritesOverTheTarget() {
        for (int kind = FOLD; kind <= ORDER; kind++) {
            PassChecker x = new PassChecker();
            Programs.addBlock(x, 0, code(Programs.STORE, 0, 1, 2));
            Programs.addBlock(x, 0);
            x.end(0, 0, Programs.IF, 4, 5, 1);
            x.end(0, 1, Programs.RETURN, 3, 0, 0);
            for (int block = 0; block < 6; block++) {
                Programs.addBlock(x, 1, code(Programs.ADD, 1, 1, 1), code(Programs.ADD, 1, 1, 1));
            }
            Due.is("changes", x.pass(kind), 0);
            Due.is("codes", Programs.codesOf(x, 1, 0), "9 0 1 2");
            Due.is("codes", Programs.codesOf(x, 1, 1), "");
            Due.is("end", Programs.endOf(x, 1, 0), "1 4 5 1");
            Due.is("end", Programs.endOf(x, 1, 1), "2 3 0 0");
            Due.fails("as many blocks", IndexOutOfBoundsException.class, () -> x.ending(1, 2, 0));
        }
    }

    private static void foldFolds() {
        due("all operations", FOLD, 6, "0 0 0 -7, 0 1 0 2, 0 2 0 -5, 0 3 0 -9, 0 4 0 -14, 0 5 0 0, 0 2 0 1, 0 3 0 -3",
                code(Programs.CONSTANT, 0, 0, -7), code(Programs.CONSTANT, 1, 0, 2),
                code(Programs.ADD, 2, 0, 1), code(Programs.SUBTRACT, 3, 0, 1), code(Programs.MULTIPLY, 4, 0, 1),
                code(Programs.AND, 5, 0, 1), code(Programs.LESS, 2, 0, 1), code(Programs.DIVIDE, 3, 0, 1));
        due("MOVE and what became a CONSTANT", FOLD, 2, "0 5 0 6, 0 4 0 6, 0 4 0 12, 9 0 4 5",
                code(Programs.CONSTANT, 5, 0, 6), code(Programs.MOVE, 4, 5, 0), code(Programs.ADD, 4, 4, 5),
                code(Programs.STORE, 0, 4, 5));
        due("LESS of equal and greater ones", FOLD, 2, "0 0 0 3, 0 1 0 0, 0 2 0 0",
                code(Programs.CONSTANT, 0, 0, 3), code(Programs.LESS, 1, 0, 0), code(Programs.LESS, 2, 0, 1));
    }

    private static void foldForgets() {
        due("one register is not enough", FOLD, 0, "0 0 0 5, 2 1 0 2, 2 1 2 0, 3 3 2 2, 1 4 2 0",
                code(Programs.CONSTANT, 0, 0, 5), code(Programs.ADD, 1, 0, 2), code(Programs.ADD, 1, 2, 0),
                code(Programs.SUBTRACT, 3, 2, 2), code(Programs.MOVE, 4, 2, 0));
        due("written by MOVE, LOAD and +", FOLD, 0, "0 0 0 5, 1 0 1 0, 1 2 0 0, 0 0 0 5, 8 0 0 0, 1 2 0 0, 2 3 3 0",
                code(Programs.CONSTANT, 0, 0, 5), code(Programs.MOVE, 0, 1, 0), code(Programs.MOVE, 2, 0, 0),
                code(Programs.CONSTANT, 0, 0, 5), code(Programs.LOAD, 0, 0, 0), code(Programs.MOVE, 2, 0, 0),
                code(Programs.ADD, 3, 3, 0));
        due("a STORE writes no register", FOLD, 1, "0 0 0 5, 9 0 0 1, 0 1 0 5",
                code(Programs.CONSTANT, 0, 0, 5), code(Programs.STORE, 0, 0, 1), code(Programs.MOVE, 1, 0, 0));
    }

    private static void foldWraps() {
        due("wrapping", FOLD, 3, "0 0 0 -2147483648, 0 1 0 -1, 0 2 0 2147483647, 0 3 0 -2147483648, 0 4 0 -2147483648",
                code(Programs.CONSTANT, 0, 0, Integer.MIN_VALUE), code(Programs.CONSTANT, 1, 0, -1),
                code(Programs.ADD, 2, 0, 1), code(Programs.MULTIPLY, 3, 0, 1), code(Programs.DIVIDE, 4, 0, 1));
    }

    private static void foldLeavesDivisionByZero() {
        due("/ by 0", FOLD, 1, "0 0 0 7, 0 1 0 0, 7 2 0 1, 1 3 2 0, 0 4 0 0",
                code(Programs.CONSTANT, 0, 0, 7), code(Programs.CONSTANT, 1, 0, 0), code(Programs.DIVIDE, 2, 0, 1),
                code(Programs.MOVE, 3, 2, 0), code(Programs.DIVIDE, 4, 1, 0));
        due("/ by 0 makes its register unknown", FOLD, 0, "0 0 0 0, 7 0 0 0, 1 1 0 0",
                code(Programs.CONSTANT, 0, 0, 0), code(Programs.DIVIDE, 0, 0, 0), code(Programs.MOVE, 1, 0, 0));
    }

    private static void foldDecidesIf() {
        PassChecker x = Programs.withSource(code(Programs.CONSTANT, 3, 0, -1));
        x.end(0, 0, Programs.IF, 3, 4, 5);
        Due.is("changes", x.pass(FOLD), 1);
        Due.is("not 0", Programs.endOf(x, 1, 0), "0 0 4 0");
        x.end(0, 0, Programs.IF, 2, 4, 5);
        Due.is("changes", x.pass(FOLD), 0);
        Due.is("not known", Programs.endOf(x, 1, 0), "1 2 4 5");
        x.code(0, 0, Programs.SUBTRACT, 2, 3, 3);
        Due.is("changes", x.pass(FOLD), 2);
        Due.is("0", Programs.endOf(x, 1, 0), "0 0 5 0");
        x.end(0, 0, Programs.RETURN, 3, 0, 0);
        Due.is("changes", x.pass(FOLD), 1);
        Due.is("RETURN", Programs.endOf(x, 1, 0), "2 3 0 0");
        Due.is("only FOLD does it", x.pass(ORDER) + x.pass(REUSE), 0);
        PassChecker y = Programs.withSource(code(Programs.CONSTANT, 0, 0, 1));
        y.end(0, 0, Programs.IF, 0, 4, 0);
        Due.is("an end of which only the kind is another", y.pass(FOLD), 1);
        Due.is("only the kind", Programs.endOf(y, 1, 0), "0 0 4 0");
    }

    private static void eachBlockFoldsByItself() {
        PassChecker x = Programs.withSource(code(Programs.CONSTANT, 0, 0, 1), code(Programs.ADD, 1, 0, 0));
        Programs.addBlock(x, 0, code(Programs.MOVE, 2, 0, 0), code(Programs.ADD, 1, 0, 0));
        x.end(0, 1, Programs.IF, 0, 2, 3);
        Due.is("FOLD", x.pass(FOLD), 1);
        Due.is("codes", Programs.codesOf(x, 1, 1), "1 2 0 0, 2 1 0 0");
        Due.is("end", Programs.endOf(x, 1, 1), "1 0 2 3");
        Due.is("REUSE", x.pass(REUSE), 0);
    }

    private static void reuseReuses() {
        for (int operation = Programs.ADD; operation <= Programs.DIVIDE; operation++) {
            due("operation " + operation, REUSE, 1, operation + " 2 0 1, " + operation + " 3 1 0, 1 4 2 0",
                    code(operation, 2, 0, 1), code(operation, 3, 1, 0), code(operation, 4, 0, 1));
        }
        due("CONSTANT, MOVE and STORE", REUSE, 0, "0 1 0 5, 0 2 0 5, 1 3 1 0, 1 4 1 0, 9 0 1 2, 9 0 1 2",
                code(Programs.CONSTANT, 1, 0, 5), code(Programs.CONSTANT, 2, 0, 5), code(Programs.MOVE, 3, 1, 0),
                code(Programs.MOVE, 4, 1, 0), code(Programs.STORE, 0, 1, 2), code(Programs.STORE, 0, 1, 2));
        due("into the same register", REUSE, 1, "2 2 0 1, 1 2 2 0", code(Programs.ADD, 2, 0, 1),
                code(Programs.ADD, 2, 0, 1));
        due("into one that it reads", REUSE, 1, "2 2 0 1, 1 0 2 0", code(Programs.ADD, 2, 0, 1),
                code(Programs.ADD, 0, 0, 1));
        due("past a STORE", REUSE, 1, "2 2 0 1, 9 0 2 2, 1 3 2 0",
                code(Programs.ADD, 2, 0, 1), code(Programs.STORE, 0, 2, 2), code(Programs.ADD, 3, 0, 1));
    }

    private static void reuseSeesWrites() {
        due("A written since", REUSE, 0, "2 2 0 1, 1 0 0 0, 2 3 0 1",
                code(Programs.ADD, 2, 0, 1), code(Programs.MOVE, 0, 0, 0), code(Programs.ADD, 3, 0, 1));
        due("B written since", REUSE, 0, "2 2 0 1, 0 1 0 4, 2 3 0 1",
                code(Programs.ADD, 2, 0, 1), code(Programs.CONSTANT, 1, 0, 4), code(Programs.ADD, 3, 0, 1));
        due("A written by it", REUSE, 0, "2 0 0 1, 2 3 0 1", code(Programs.ADD, 0, 0, 1), code(Programs.ADD, 3, 0, 1));
        due("B written by it", REUSE, 0, "2 1 0 1, 2 3 0 1", code(Programs.ADD, 1, 0, 1), code(Programs.ADD, 3, 0, 1));
        due("D written since", REUSE, 0, "2 2 0 1, 1 2 5 0, 2 3 0 1",
                code(Programs.ADD, 2, 0, 1), code(Programs.MOVE, 2, 5, 0), code(Programs.ADD, 3, 0, 1));
        due("another operation", REUSE, 0, "2 2 0 1, 3 3 0 1", code(Programs.ADD, 2, 0, 1),
                code(Programs.SUBTRACT, 3, 0, 1));
        due("another B", REUSE, 0, "2 2 0 1, 2 3 0 0", code(Programs.ADD, 2, 0, 1), code(Programs.ADD, 3, 0, 0));
    }

    private static void reuseOfLoad() {
        due("LOAD", REUSE, 1, "8 2 1 0, 1 3 2 0", code(Programs.LOAD, 2, 1, 0), code(Programs.LOAD, 3, 1, 0));
        due("LOAD, register 0 written", REUSE, 1, "8 2 1 0, 0 0 0 9, 1 3 2 0",
                code(Programs.LOAD, 2, 1, 0), code(Programs.CONSTANT, 0, 0, 9), code(Programs.LOAD, 3, 1, 0));
        due("LOAD into register 0", REUSE, 1, "8 0 1 0, 1 3 0 0", code(Programs.LOAD, 0, 1, 0),
                code(Programs.LOAD, 3, 1, 0));
        due("LOAD of what it wrote", REUSE, 0, "8 1 1 0, 8 3 1 0", code(Programs.LOAD, 1, 1, 0),
                code(Programs.LOAD, 3, 1, 0));
        due("LOAD past a STORE", REUSE, 0, "8 2 1 0, 9 0 4 4, 8 3 1 0",
                code(Programs.LOAD, 2, 1, 0), code(Programs.STORE, 0, 4, 4), code(Programs.LOAD, 3, 1, 0));
        due("LOAD behind a STORE again", REUSE, 1, "8 2 1 0, 9 0 4 4, 8 3 1 0, 1 5 3 0",
                code(Programs.LOAD, 2, 1, 0), code(Programs.STORE, 0, 4, 4), code(Programs.LOAD, 3, 1, 0),
                code(Programs.LOAD, 5, 1, 0));
    }

    private static void reuseOfSeveral() {
        due("the first one", REUSE, 2, "2 2 0 1, 1 3 2 0, 1 4 2 0",
                code(Programs.ADD, 2, 0, 1), code(Programs.ADD, 3, 0, 1), code(Programs.ADD, 4, 0, 1));
        due("the first one that is left", REUSE, 2, "2 2 0 1, 1 3 2 0, 0 2 0 0, 1 4 3 0",
                code(Programs.ADD, 2, 0, 1), code(Programs.ADD, 3, 0, 1), code(Programs.CONSTANT, 2, 0, 0),
                code(Programs.ADD, 4, 0, 1));
    }

    private static void orderByHeight() {
        due("* before +, of equal ones the first", ORDER, 3, "4 3 0 1, 2 2 0 1, 3 4 0 1",
                code(Programs.ADD, 2, 0, 1), code(Programs.SUBTRACT, 4, 0, 1), code(Programs.MULTIPLY, 3, 0, 1));
        due("what each takes", ORDER, 6, "7 5 0 1, 8 3 0 0, 2 4 0 1, 4 2 0 1, 8 3 0 0, 2 4 0 1, 5 4 0 1, 9 0 0 1",
                code(Programs.ADD, 4, 0, 1), code(Programs.ADD, 4, 0, 1), code(Programs.AND, 4, 0, 1),
                code(Programs.MULTIPLY, 2, 0, 1), code(Programs.DIVIDE, 5, 0, 1), code(Programs.LOAD, 3, 0, 0),
                code(Programs.LOAD, 3, 0, 0), code(Programs.STORE, 0, 0, 1));
        due("those that depend on it count", ORDER, 3, "2 2 0 1, 4 5 2 2, 6 3 0 1",
                code(Programs.LESS, 3, 0, 1), code(Programs.ADD, 2, 0, 1), code(Programs.MULTIPLY, 5, 2, 2));
        due("/ before * of the same chain", ORDER, 2, "7 3 0 1, 4 2 0 1",
                code(Programs.MULTIPLY, 2, 0, 1), code(Programs.DIVIDE, 3, 0, 1));
        due("LOAD before +", ORDER, 2, "8 3 0 0, 2 2 0 1", code(Programs.ADD, 2, 0, 1), code(Programs.LOAD, 3, 0, 0));
        for (int operation = 0; operation < 10; operation++) {
            dueTakes(operation);
        }
        due("of equal heights the first", ORDER, 0, "0 0 0 1, 0 1 0 2, 0 2 0 3",
                code(Programs.CONSTANT, 0, 0, 1), code(Programs.CONSTANT, 1, 0, 2), code(Programs.CONSTANT, 2, 0, 3));
    }

    /** A chain of n additions has heights n .. 1: those that are at least as high as the one tried come before it. */
    private static void dueTakes(int operation) {
        int[] takes = {1, 1, 1, 1, 3, 1, 1, 4, 2, 1};
        int[] tried = code(operation, 5, 1, 1);
        for (int chain = 1; chain <= 5; chain++) {
            PassChecker x = Programs.withSource();
            for (int i = 0; i < chain; i++) {
                x.code(0, 0, Programs.ADD, 4, 4, 4);
            }
            x.code(0, 0, tried[0], tried[1], tried[2], tried[3]);
            x.pass(ORDER);
            int place = Math.max(0, chain - takes[operation] + 1);
            Due.is("place of " + operation + " behind " + chain, x.instruction(1, 0, place, 0) == operation
                    && (operation != Programs.ADD || x.instruction(1, 0, place, 1) == 5), true);
        }
    }

    private static void orderTwice() {
        PassChecker x = Programs.withSource(code(Programs.ADD, 2, 0, 1), code(Programs.MULTIPLY, 3, 0, 1));
        Programs.addBlock(x, 0, code(Programs.ADD, 3, 0, 1), code(Programs.MULTIPLY, 2, 0, 1));
        for (int i = 0; i < 2; i++) {
            Due.is("changes", x.pass(ORDER), 4);
            Due.is("block 0", Programs.codesOf(x, 1, 0), "4 3 0 1, 2 2 0 1");
            Due.is("block 1", Programs.codesOf(x, 1, 1), "4 2 0 1, 2 3 0 1");
        }
    }

    private static void orderKeepsDependences() {
        due("read behind write", ORDER, 0, "2 2 0 1, 4 3 2 0", code(Programs.ADD, 2, 0, 1),
                code(Programs.MULTIPLY, 3, 2, 0));
        due("read of B behind write", ORDER, 0, "2 2 0 1, 4 3 0 2", code(Programs.ADD, 2, 0, 1),
                code(Programs.MULTIPLY, 3, 0, 2));
        due("write behind read", ORDER, 0, "2 2 0 1, 4 0 3 3", code(Programs.ADD, 2, 0, 1),
                code(Programs.MULTIPLY, 0, 3, 3));
        due("write behind read of B", ORDER, 0, "2 2 0 1, 4 1 3 3", code(Programs.ADD, 2, 0, 1),
                code(Programs.MULTIPLY, 1, 3, 3));
        due("write behind write", ORDER, 0, "2 2 0 1, 4 2 3 3", code(Programs.ADD, 2, 0, 1),
                code(Programs.MULTIPLY, 2, 3, 3));
        due("a STORE reads A and B", ORDER, 0, "9 0 1 2, 4 1 3 3, 4 2 3 3",
                code(Programs.STORE, 0, 1, 2), code(Programs.MULTIPLY, 1, 3, 3), code(Programs.MULTIPLY, 2, 3, 3));
        due("a STORE writes no register", ORDER, 2, "4 0 3 3, 9 0 1 2",
                code(Programs.STORE, 0, 1, 2), code(Programs.MULTIPLY, 0, 3, 3));
        due("CONSTANT reads none, its number is no register", ORDER, 2, "4 0 3 3, 0 2 0 0",
                code(Programs.CONSTANT, 2, 0, 0), code(Programs.MULTIPLY, 0, 3, 3));
        due("MOVE and LOAD do not read register 0 as B", ORDER, 2, "4 0 3 3, 8 5 4 0, 1 2 1 0",
                code(Programs.MOVE, 2, 1, 0), code(Programs.LOAD, 5, 4, 0), code(Programs.MULTIPLY, 0, 3, 3));
    }

    private static void orderKeepsTraps() {
        for (int one = Programs.DIVIDE; one <= Programs.STORE; one++) {
            for (int other = Programs.DIVIDE; other <= Programs.STORE; other++) {
                PassChecker x = Programs.withSource(code(one, 2, 0, 1), code(other, 3, 0, 1));
                String before = Programs.codesOf(x, 0, 0);
                Due.is("changes", x.pass(ORDER), 0);
                Due.is("order of " + one + " and " + other, Programs.codesOf(x, 1, 0), before);
            }
        }
    }

    private static void orderCountsPlaceByPlace() {
        due("equal ones at other places", ORDER, 2, "4 3 0 1, 0 2 0 5, 0 2 0 5",
                code(Programs.CONSTANT, 2, 0, 5), code(Programs.CONSTANT, 2, 0, 5), code(Programs.MULTIPLY, 3, 0, 1));
    }

    private static void takeCopies() {
        PassChecker x = Programs.withSource(code(Programs.CONSTANT, 2, 0, 5), code(Programs.MOVE, 3, 2, 0));
        x.end(0, 0, Programs.IF, 3, 1, 2);
        x.block(0);
        x.pass(FOLD);
        x.take();
        Due.is("codes", Programs.codesOf(x, 0, 0), "0 2 0 5, 0 3 0 5");
        Due.is("end", Programs.endOf(x, 0, 0), "0 0 1 0");
        Due.is("blocks", x.ending(0, 1, 4), 0);
        x.code(0, 0, Programs.ADD, 1, 1, 1);
        Due.is("the target stays", x.ending(1, 0, 4), 2);
        x.wipe(1);
        x.take();
        Due.fails("a source without blocks", IndexOutOfBoundsException.class, () -> x.ending(0, 0, 0));
    }
}
