import java.util.function.Consumer;

/** The edges that the document names, sentence by sentence: the checker's ends and pairs, promises 10 and 11. */
public final class CheckEdgesTest {
    public static void main(String[] args) {
        checkOfNothing();
        checkOfBlocksThatAreNotThere();
        checkOfAsManyAsThereCanBe();
        checkCountsAPairOnce();
        checkOfWhatIsNotReached();
        checkThatIsRefused();
        refusedWithoutACheck();
        refusedForNone();
        refusedOfNoWhat();
        refusedBehindAChange();
        refusedBehindWhatIsNoChange();
        refusedBehindTheNextCheck();
        endsOfAnotherKind();
        endsOfAnotherValue();
        endsOfNumbers();
        endsOfXAsY();
        endsThatDoNotAgree();
        goalsCorrespondThen();
        anotherPartner();
        anotherPartnerDoesNotCount();
        aTargetsBlockForSeveral();
        effectsInTheirOrder();
        effectsOfAnotherKindOrValue();
        registersAtAnEndThatIsNotReturn();
        reasonsInTheirOrder();
        pairsInTheirOrder();
        Due.finish();
    }

    private static int[] code(int operation, int d, int a, int b) {
        return Programs.code(operation, d, a, b);
    }

    private static int[] constant(int d, int number) {
        return code(Programs.CONSTANT, d, 0, number);
    }

    private static int[] store(int a, int b) {
        return code(Programs.STORE, 0, a, b);
    }

    private static int[] load(int d, int a) {
        return code(Programs.LOAD, d, a, 0);
    }

    private static int[] divide(int d, int a, int b) {
        return code(Programs.DIVIDE, d, a, b);
    }

    private static int[][] rows(int[]... rows) {
        return rows;
    }

    private static int[] go(int x) {
        return new int[] {Programs.GO, 0, x, 0};
    }

    private static int[] when(int a, int x, int y) {
        return new int[] {Programs.IF, a, x, y};
    }

    private static int[] back(int a) {
        return new int[] {Programs.RETURN, a, 0, 0};
    }

    /** Two programs of empty blocks with these ends. */
    private static PassChecker ends(int[][] source, int[][] target) {
        PassChecker x = new PassChecker();
        int[][][] both = {source, target};
        for (int program = 0; program < 2; program++) {
            for (int[] end : both[program]) {
                x.end(program, x.block(program), end[0], end[1], end[2], end[3]);
            }
        }
        return x;
    }

    /** Two programs of one block with these instructions, and the same end. */
    private static PassChecker blocks(int[] end, int[][] source, int[][] target) {
        PassChecker x = new PassChecker();
        Programs.addBlock(x, 0, source);
        Programs.addBlock(x, 1, target);
        for (int program = 0; program < 2; program++) {
            x.end(program, 0, end[0], end[1], end[2], end[3]);
        }
        return x;
    }

    private static String refusedOf(PassChecker x) {
        return x.refused(0) + " " + x.refused(1) + " " + x.refused(2);
    }

    private static void dueRefused(String what, PassChecker x, int reason, int block, int partner) {
        Due.fails("check() of " + what, Edges.UNSUPPORTED, x::check);
        Due.is("refused of " + what, refusedOf(x), reason + " " + block + " " + partner);
    }

    private static void dueAccepted(String what, PassChecker x, int pairs) {
        Due.is("check() of " + what, Due.answerOf(x::check), pairs);
        Due.is("refused of " + what, refusedOf(x), "0 -1 -1");
    }

    private static void checkOfNothing() {
        Due.by("Terms", "Block 0 of the source CORRESPONDS to block 0 of the target");
        dueAccepted("two programs without blocks", new PassChecker(), 1);
        dueAccepted("a source without blocks", ends(rows(), rows(back(0))), 1);
        dueAccepted("a target without blocks", ends(rows(back(0)), rows()), 1);
        dueRefused("a source without blocks, another register", ends(rows(), rows(back(1))), 3, 0, 0);
        dueRefused("a target without blocks, another register", ends(rows(back(5)), rows()), 3, 0, 0);
    }

    private static void checkOfBlocksThatAreNotThere() {
        Due.by("Terms", "A block that is gone to which is not there is as one without instructions, with RETURN of"
                + " register 0.");
        dueAccepted("GO to 5 and to 5", ends(rows(go(5)), rows(go(5))), 2);
        dueAccepted("GO to 5 and to 1", ends(rows(go(5)), rows(go(1), back(0))), 2);
        dueAccepted("GO to 1 and to 5", ends(rows(go(1), back(0)), rows(go(5))), 2);
        dueRefused("GO to one with a RETURN of 1", ends(rows(go(5)), rows(go(1), back(1))), 3, 5, 1);
        dueRefused("GO to one with a RETURN of 1", ends(rows(go(1), back(1)), rows(go(5))), 3, 1, 5);
        PassChecker x = ends(rows(go(1), back(3)), rows(go(1)));
        x.code(0, 1, Programs.STORE, 0, 0, 0);
        x.wipe(0);
        x.end(0, x.block(0), Programs.GO, 0, 1, 0);
        dueAccepted("a block that was wiped", x, 2);
    }

    private static void checkOfAsManyAsThereCanBe() {
        Due.by("Promise 10", "Checks: how many pairs of blocks correspond.");
        int[][] chain = rows(go(1), go(2), go(3), go(4), go(5), back(5));
        for (int blocks = 1; blocks <= 6; blocks++) {
            int[][] source = new int[blocks][];
            System.arraycopy(chain, 0, source, 0, blocks);
            dueAccepted("a chain of " + blocks, ends(source, source), Math.min(blocks + 1, 6));
        }
        dueAccepted("a chain of six the other way round",
                ends(chain, rows(go(5), back(5), go(1), go(2), go(3), go(4))), 6);
        dueRefused("the last one of six", ends(chain, rows(go(5), back(4), go(1), go(2), go(3), go(4))), 3, 5, 1);
        dueAccepted("IFs that go to all six", ends(rows(when(0, 1, 2), when(0, 3, 4), when(0, 5, 0)),
                rows(when(0, 1, 2), when(0, 3, 4), when(0, 5, 0))), 6);
    }

    private static void checkCountsAPairOnce() {
        Due.by("Terms", "A pair that came to correspond before is not looked at again.");
        dueAccepted("a block that goes to itself", ends(rows(go(0)), rows(go(0))), 1);
        dueAccepted("an IF of a block to itself and on", ends(rows(when(3, 0, 1)), rows(when(3, 0, 1))), 2);
        dueAccepted("a ring of six", ends(rows(go(1), go(2), go(3), go(4), go(5), go(0)),
                rows(go(1), go(2), go(3), go(4), go(5), go(0))), 6);
        dueAccepted("two ways to one", ends(rows(when(0, 1, 2), go(3), go(3), back(0)),
                rows(when(0, 2, 1), go(3), go(3), back(0))), 4);
        dueAccepted("X of one that Y of it goes to", ends(rows(when(0, 1, 2), go(2), back(0)),
                rows(when(0, 1, 2), go(2), back(0))), 3);
    }

    private static void checkOfWhatIsNotReached() {
        Due.by("Promise 10", "Checks: how many pairs of blocks correspond.");
        PassChecker x = ends(rows(back(0), back(1), go(5)), rows(back(0), back(2)));
        x.code(0, 1, Programs.STORE, 0, 0, 0);
        dueAccepted("others that are not reached", x, 1);
    }

    private static void checkThatIsRefused() {
        Due.by("Promise 10", "UnsupportedOperationException if one is refused.");
        PassChecker x = Edges.busy();
        String programs = Edges.programOf(x, 0) + Edges.programOf(x, 1);
        String state = Edges.stateOf(x);
        for (int i = 0; i < 2; i++) {
            Due.fails("check()", Edges.UNSUPPORTED, x::check);
            Due.is("the programs behind it", Edges.programOf(x, 0) + Edges.programOf(x, 1), programs);
            Due.is("all that can be read behind it", Edges.stateOf(x), state);
        }
    }

    private static void refusedWithoutACheck() {
        Due.by("Promise 11", "what = 0: -1 if there was none");
        Due.is("refused of a new object", refusedOf(new PassChecker()), "-1 -1 -1");
        PassChecker x = ends(rows(back(0)), rows(back(1)));
        x.same(0, 0, 0, 0);
        x.effects(0, 0);
        x.run(0, 1, 2, 3);
        Due.is("refused without a check", refusedOf(x), "-1 -1 -1");
    }

    private static void refusedForNone() {
        Due.by("Promise 11", "(what = 0: 1 .. 4; 0 if none), the source's block (1), the target's (2; -1 both if"
                + " none)");
        dueAccepted("two that are the same", ends(rows(back(5)), rows(back(5))), 1);
        dueRefused("reason 1", ends(rows(go(0)), rows(go(5))), 1, 0, 5);
        dueRefused("reason 2", blocks(back(0), rows(store(0, 0)), rows()), 2, 0, 0);
        dueRefused("reason 3", ends(rows(go(5)), rows(go(4), go(0), go(0), go(0), back(1))), 3, 5, 4);
        dueRefused("reason 4", blocks(go(1), rows(constant(5, 0)), rows()), 4, 0, 0);
    }

    private static void refusedOfNoWhat() {
        Due.by("Promise 11", "IllegalArgumentException if there is no such what.");
        for (int what : Edges.outside(3)) {
            Edges.refuses("refused(" + what + ")", Edges.ARGUMENT, x -> x.refused(what));
            Edges.refuses("refused(" + what + ") without a check", Edges.ARGUMENT, PassChecker::new,
                    x -> x.refused(what));
        }
    }

    private static void dueStale(String what, Consumer<PassChecker> change) {
        PassChecker refused = Edges.busy();
        change.accept(refused);
        Due.is("refused(0) of a refused pair behind " + what, refused.refused(0), -1);
        PassChecker accepted = Edges.busy();
        accepted.pass(2);
        accepted.check();
        change.accept(accepted);
        Due.is("refused(0) of none behind " + what, accepted.refused(0), -1);
    }

    private static void refusedBehindAChange() {
        Due.by("Promise 11", "or a program was changed since (also by pass(), take())");
        for (int program = 0; program < 2; program++) {
            int of = program;
            dueStale("block", x -> x.block(of));
            dueStale("code", x -> x.code(of, 0, Programs.MOVE, 0, 0, 0));
            dueStale("end", x -> x.end(of, 0, Programs.GO, 0, 5, 0));
            dueStale("wipe", x -> x.wipe(of));
        }
        for (int kind = 0; kind < 3; kind++) {
            int of = kind;
            dueStale("pass(" + of + ")", x -> x.pass(of));
        }
        dueStale("take", PassChecker::take);
        PassChecker x = Edges.busy();
        x.take();
        x.check();
        x.take();
        Due.is("refused(0) behind a take that finds both the same", x.refused(0), -1);
    }

    /** Refused calls are held against all that can be read in the other tests; here are those that are not refused. */
    private static void refusedBehindWhatIsNoChange() {
        Due.by("Promise 11", "What the latest check() found");
        PassChecker x = Edges.busy();
        x.instruction(0, 0, 0, 0);
        x.ending(0, 0, 0);
        x.same(1, 0, 0, 0);
        x.effects(0, 1);
        x.run(1, 1, 1, 1);
        x.returned();
        x.word(0);
        x.steps();
        Due.is("refused behind calls that change nothing", refusedOf(x), "2 0 0");
        x.pass(0);
        x.check();
        x.same(0, 2, 0, 3);
        x.effects(1, 0);
        x.run(0, 9, 9, 9);
        Due.is("refused behind calls that change nothing", refusedOf(x), "0 -1 -1");
    }

    private static void refusedBehindTheNextCheck() {
        Due.by("Promise 11", "What the latest check() found");
        PassChecker x = ends(rows(go(1), back(1)), rows(go(1), back(2)));
        dueRefused("the first check", x, 3, 1, 1);
        x.end(0, 1, Programs.RETURN, 2, 0, 0);
        dueAccepted("the next check", x, 2);
        x.end(1, 0, Programs.RETURN, 2, 0, 0);
        dueRefused("the one behind it", x, 3, 0, 0);
    }

    private static void endsOfAnotherKind() {
        Due.by("Terms", "of blocks that correspond the ENDS must agree: the same kind");
        int[][] kinds = {go(1), when(0, 1, 2), back(0)};
        for (int i = 0; i < 3; i++) {
            for (int j = 0; j < 3; j++) {
                PassChecker x = ends(rows(kinds[i]), rows(kinds[j]));
                if (i != j) {
                    dueRefused("kinds " + i + " and " + j, x, 3, 0, 0);
                } else {
                    dueAccepted("kinds " + i + " and " + j, x, new int[] {2, 3, 1}[i]);
                }
            }
        }
    }

    private static void endsOfAnotherValue() {
        Due.by("Terms", "of blocks that correspond the ENDS must agree: the same kind, the same value");
        for (int register = 0; register < 6; register++) {
            for (int other = 0; other < 6; other++) {
                PassChecker back = ends(rows(back(register)), rows(back(other)));
                PassChecker when = ends(rows(when(register, 1, 2)), rows(when(other, 1, 2)));
                if (register == other) {
                    dueAccepted("RETURN of " + register, back, 1);
                    dueAccepted("IF of " + register, when, 3);
                } else {
                    dueRefused("RETURN of " + register + " and " + other, back, 3, 0, 0);
                    dueRefused("IF of " + register + " and " + other, when, 3, 0, 0);
                }
            }
        }
        PassChecker x = blocks(back(0), rows(constant(0, 3)), rows(constant(5, 3)));
        x.end(1, 0, Programs.RETURN, 5, 0, 0);
        dueAccepted("RETURN of the same value of another register", x, 1);
    }

    private static void endsOfNumbers() {
        Due.by("Terms", "GO X if the value is a number that is not 0, or X is Y, GO Y if it is 0");
        for (int number : new int[] {0, 1, -1, Edges.LEAST, Edges.GREATEST}) {
            PassChecker x = blocks(when(5, 1, 2), rows(constant(5, number)), rows(constant(5, number)));
            int goal = number != 0 ? 1 : 2;
            x.end(1, 0, Programs.GO, 0, goal, 0);
            dueAccepted("IF of " + number + " and GO", x, 2);
            x.block(1);
            x.block(1);
            x.end(1, goal, Programs.RETURN, 1, 0, 0);
            dueRefused("where IF of " + number + " goes", x, 3, goal, goal);
            x.end(1, goal, Programs.RETURN, 0, 0, 0);
            x.end(1, 3 - goal, Programs.RETURN, 1, 0, 0);
            dueAccepted("where IF of " + number + " does not go", x, 2);
        }
        PassChecker x = blocks(when(5, 1, 2), rows(code(Programs.SUBTRACT, 5, 0, 0)), rows(constant(5, 0)));
        x.end(1, 0, Programs.GO, 0, 2, 0);
        dueAccepted("IF of a - a and GO to Y", x, 2);
        dueRefused("IF of a value that is no number and GO", ends(rows(when(5, 1, 2)), rows(go(1))), 3, 0, 0);
    }

    private static void endsOfXAsY() {
        Due.by("Terms", "or X is Y");
        dueAccepted("IF to 3 and 3, and GO to 3", ends(rows(when(1, 3, 3)), rows(go(3))), 2);
        dueAccepted("GO to 3, and IF to 4 and 4", ends(rows(go(3)), rows(when(1, 4, 4))), 2);
        dueAccepted("IFs of two values to 3 and 3", ends(rows(when(1, 3, 3)), rows(when(2, 3, 3))), 2);
        dueRefused("IF to 3 and 3, and IF to 3 and 4", ends(rows(when(1, 3, 3)), rows(when(1, 3, 4))), 3, 0, 0);
        dueRefused("IF to 3 and 4, and IF to 3 and 3", ends(rows(when(1, 3, 4)), rows(when(1, 3, 3))), 3, 0, 0);
        PassChecker x = blocks(when(5, 3, 3), rows(constant(5, 0)), rows(constant(5, 0)));
        dueAccepted("IF of 0 to 3 and 3", x, 2);
    }

    private static void endsThatDoNotAgree() {
        Due.by("Terms", "3 the ends do not agree");
        PassChecker x = blocks(back(5), rows(constant(5, 7)), rows(constant(5, 8)));
        dueRefused("RETURN of 7 and of 8", x, 3, 0, 0);
        x.code(0, 0, Programs.CONSTANT, 5, 0, 8);
        dueAccepted("RETURN of 8 and of 8", x, 1);
        PassChecker y = blocks(when(5, 1, 2), rows(constant(5, 1)), rows(constant(5, 0)));
        dueRefused("IF of 1 and of 0 are two GOs", y, 4, 0, 0);
    }

    private static void goalsCorrespondThen() {
        Due.by("Terms", "and X and Y (of GO: X) correspond then");
        dueRefused("X of GO", ends(rows(go(1), back(1)), rows(go(4))), 3, 1, 4);
        dueRefused("X of IF", ends(rows(when(0, 1, 2), back(1)), rows(when(0, 5, 4))), 3, 1, 5);
        dueRefused("Y of IF", ends(rows(when(0, 2, 1), back(1)), rows(when(0, 5, 4))), 3, 1, 4);
        dueAccepted("X and Y of RETURN", ends(rows(back(0), back(1)), rows(back(0))), 1);
        dueAccepted("Y of GO", ends(rows(go(1), back(0)), rows(go(1), back(0))), 2);
    }

    private static void anotherPartner() {
        Due.by("Terms", "1 the source's block corresponds to another one already");
        dueRefused("the source goes to itself, the target on", ends(rows(go(0)), rows(go(1), go(0))), 1, 0, 1);
        dueRefused("even if the other one is the same", ends(rows(go(1), go(1)), rows(go(1), go(2), go(2))), 1, 1, 2);
        dueRefused("as X", ends(rows(when(0, 0, 1)), rows(when(0, 1, 2))), 1, 0, 1);
        dueRefused("as Y", ends(rows(when(0, 1, 0)), rows(when(0, 1, 2))), 1, 0, 2);
        dueRefused("as X and as Y", ends(rows(go(1), when(0, 0, 1)), rows(go(1), when(0, 2, 3))), 1, 0, 2);
        dueRefused("the last of six", ends(rows(go(1), go(2), go(3), go(4), go(5), go(5)),
                rows(go(1), go(2), go(3), go(4), go(5), go(4))), 1, 5, 4);
        dueRefused("blocks that are not there", ends(rows(when(0, 1, 5), go(5)), rows(when(0, 1, 5), go(4))), 1, 5, 4);
    }

    /** Such a pair never comes to correspond, so it does not wait for its turn behind those that do. */
    private static void anotherPartnerDoesNotCount() {
        Due.by("Terms", "(then the pair that would come does not count)");
        dueRefused("X, before Y", ends(rows(when(0, 0, 1), back(1)), rows(when(0, 1, 2), back(1), back(2))), 1, 0, 1);
        dueRefused("Y, and an X that is the same", ends(rows(when(0, 1, 0), back(1)),
                rows(when(0, 1, 2), back(1), back(2))), 1, 0, 2);
        dueRefused("one behind which others wait", ends(rows(when(0, 1, 2), go(2), back(0)),
                rows(when(0, 1, 2), go(3), back(4), back(0))), 1, 2, 3);
        PassChecker x = ends(rows(go(1), go(0)), rows(go(1), go(2), go(1)));
        dueRefused("a third one of the target", x, 1, 0, 2);
        x.end(1, 1, Programs.GO, 0, 0, 0);
        dueAccepted("none", x, 2);
    }

    private static void aTargetsBlockForSeveral() {
        Due.by("Terms", "1 the source's block corresponds to another one already");
        dueAccepted("the target goes to itself, the source on", ends(rows(go(1), go(0)), rows(go(0))), 2);
        dueAccepted("six of the source for one of the target",
                ends(rows(go(1), go(2), go(3), go(4), go(5), go(0)), rows(go(0))), 6);
    }

    private static void effectsInTheirOrder() {
        Due.by("Terms", "2 their effects are not the same, in their order");
        int[] end = back(0);
        dueRefused("one and none", blocks(end, rows(store(0, 1)), rows()), 2, 0, 0);
        dueRefused("none and one", blocks(end, rows(), rows(store(0, 1))), 2, 0, 0);
        dueRefused("one and two", blocks(end, rows(store(0, 1)), rows(store(0, 1), store(0, 1))), 2, 0, 0);
        dueRefused("two STOREs the other way round", blocks(end, rows(store(0, 1), store(1, 0)),
                rows(store(1, 0), store(0, 1))), 2, 0, 0);
        dueRefused("two / the other way round", blocks(end, rows(divide(5, 0, 1), divide(5, 1, 0)),
                rows(divide(5, 1, 0), divide(5, 0, 1))), 2, 0, 0);
        dueRefused("two LOADs the other way round", blocks(end, rows(load(5, 0), load(5, 1)),
                rows(load(5, 1), load(5, 0))), 2, 0, 0);
        dueAccepted("a LOAD at 7 has none", blocks(end, rows(constant(4, 7), load(5, 4)), rows()), 1);
        dueRefused("a LOAD at 8 has one", blocks(end, rows(constant(4, 8), load(5, 4)), rows()), 2, 0, 0);
        dueAccepted("a / by 1 has none", blocks(end, rows(constant(4, 1), divide(5, 0, 4)), rows()), 1);
        dueRefused("a / by 0 has one", blocks(end, rows(constant(4, 0), divide(5, 0, 4)), rows()), 2, 0, 0);
        int[] last = store(0, 1);
        int[] other = store(0, 2);
        dueAccepted("eight that are the same", blocks(end, rows(last, last, last, last, last, last, last, last),
                rows(last, last, last, last, last, last, last, last)), 1);
        dueRefused("the last of eight", blocks(end, rows(last, last, last, last, last, last, last, last),
                rows(last, last, last, last, last, last, last, other)), 2, 0, 0);
    }

    private static void effectsOfAnotherKindOrValue() {
        Due.by("Terms", "(kind, and both values, of LOAD place and STOREs before)");
        int[] end = back(0);
        dueRefused("/ and STORE of the same values", blocks(end, rows(divide(5, 1, 2)), rows(store(1, 2))), 2, 0, 0);
        dueRefused("LOAD and STORE at the same place", blocks(end, rows(load(5, 1)), rows(store(1, 0))), 2, 0, 0);
        dueRefused("LOAD and / of the same register", blocks(end, rows(load(5, 1)), rows(divide(5, 1, 0))), 2, 0, 0);
        dueRefused("STORE at another place", blocks(end, rows(store(1, 2)), rows(store(3, 2))), 2, 0, 0);
        dueRefused("STORE of another value", blocks(end, rows(store(1, 2)), rows(store(1, 3))), 2, 0, 0);
        dueRefused("/ of another value", blocks(end, rows(divide(5, 1, 2)), rows(divide(5, 3, 2))), 2, 0, 0);
        dueRefused("/ by another value", blocks(end, rows(divide(5, 1, 2)), rows(divide(5, 1, 3))), 2, 0, 0);
        dueRefused("LOAD at another place", blocks(end, rows(load(5, 1)), rows(load(5, 3))), 2, 0, 0);
        dueRefused("a LOAD behind the STORE", blocks(end, rows(load(5, 1), store(1, 2)), rows(store(1, 2), load(5, 1))),
                2, 0, 0);
        dueAccepted("the same values of other registers",
                blocks(end, rows(store(1, 2), load(5, 1), divide(5, 1, 2)),
                        rows(code(Programs.MOVE, 3, 1, 0), code(Programs.MOVE, 4, 2, 0), store(3, 4), load(5, 3),
                                divide(3, 3, 4))), 1);
    }

    private static void registersAtAnEndThatIsNotReturn() {
        Due.by("Terms", "4 a register's value is not the same in both, at an end that is not RETURN");
        for (int register = 0; register < 6; register++) {
            int[][] source = rows(constant(register, 0));
            int other = (register + 1) % 6;
            dueRefused("GO, register " + register, blocks(go(1), source, rows()), 4, 0, 0);
            dueRefused("IF, register " + register, blocks(when(other, 1, 2), source, rows()), 4, 0, 0);
            dueRefused("IF to 1 and 1, register " + register, blocks(when(other, 1, 1), source, rows()), 4, 0, 0);
            dueAccepted("RETURN, register " + register, blocks(back(other), source, rows()), 1);
        }
        dueAccepted("registers of the same values", blocks(go(1), rows(code(Programs.SUBTRACT, 3, 0, 0)),
                rows(constant(3, 0))), 2);
    }

    private static void reasonsInTheirOrder() {
        Due.by("Terms", "The first pair is REFUSED for which, looked for in this order");
        PassChecker x = blocks(go(1), rows(store(0, 1), constant(2, 1)), rows());
        x.end(1, 0, Programs.IF, 0, 1, 2);
        dueRefused("2, 3 and 4", x, 2, 0, 0);
        x.code(1, 0, Programs.STORE, 0, 0, 1);
        dueRefused("3 and 4", x, 3, 0, 0);
        x.end(1, 0, Programs.GO, 0, 1, 0);
        dueRefused("4", x, 4, 0, 0);
        x.code(1, 0, Programs.CONSTANT, 2, 0, 1);
        dueAccepted("none", x, 2);
        PassChecker y = ends(rows(go(0)), rows(go(1), back(3)));
        y.code(1, 1, Programs.STORE, 0, 0, 0);
        dueRefused("1, 2, 3 and 4", y, 1, 0, 1);
    }

    private static void pairsInTheirOrder() {
        Due.by("Terms", "Pairs are looked at in the order in which they come to correspond (a pair's X before its Y).");
        PassChecker x = ends(rows(when(0, 2, 1), back(1), go(3), back(1)),
                rows(when(0, 2, 1), back(2), back(1), back(2)));
        dueRefused("X, before Y", x, 3, 2, 2);
        x.end(1, 2, Programs.GO, 0, 3, 0);
        dueRefused("Y, before what X goes to", x, 3, 1, 1);
        x.end(1, 1, Programs.RETURN, 1, 0, 0);
        dueRefused("what X goes to", x, 3, 3, 3);
        x.end(1, 3, Programs.RETURN, 1, 0, 0);
        dueAccepted("none", x, 4);
    }
}
