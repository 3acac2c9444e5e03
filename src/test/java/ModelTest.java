import java.util.Arrays;
import java.util.Map;
import java.util.TreeMap;

/**
 * Long runs of calls, each answer held against the model's. The runs are always the same ones: a counter of
 * its own picks the calls. At the end it must have seen every answer that is rare.
 */
public final class ModelTest {
    private static final int OBJECTS = 2000;
    private static final int CALLS = 512;
    private static final int[] NUMBERS = {0, 1, -1, 2, 3, 7, 8, -2, Integer.MIN_VALUE, Integer.MAX_VALUE, 1 << 16};

    private static long seed = 20261115;
    private static final Map<String, Integer> seen = new TreeMap<>();

    public static void main(String[] args) {
        for (int object = 0; object < OBJECTS; object++) {
            runOne(object);
        }
        for (int reason = 0; reason <= 4; reason++) {
            wasSeen("reason " + reason);
            wasSeen("outcome " + reason);
        }
        wasSeen("same true");
        wasSeen("same false");
        Due.finish();
    }

    private static void wasSeen(String answer) {
        Due.is(answer + " was seen often", seen.getOrDefault(answer, 0) > 50, true);
    }

    private static int below(int bound) {
        seed = seed * 6364136223846793005L + 1442695040888963407L;
        return (int) ((seed >>> 33) % bound);
    }

    /** Mostly 0 .. bound - 1, now and then one beside it. */
    private static int near(int bound) {
        return below(40) != 0 ? below(bound) : below(2) == 0 ? -1 : bound;
    }

    private static int number() {
        return below(3) == 0 ? NUMBERS[below(NUMBERS.length)] : below(9);
    }

    private static void runOne(int object) {
        PassChecker made = new PassChecker();
        Model model = new Model();
        int[] arguments = new int[6];
        int registers = 2 + below(5);
        boolean bare = below(3) == 0;
        for (int i = 0; i < CALLS; i++) {
            int call = pick(i, bare);
            choose(call, arguments, registers);
            Object got = answer(() -> callMade(made, call, arguments));
            Object want = answer(() -> callModel(model, call, arguments));
            count(call, arguments, got);
            if (!got.equals(want)) {
                Due.is("object " + object + ", call " + i + ", " + call + Arrays.toString(arguments), got, want);
                return;
            }
        }
    }

    private static void count(int call, int[] arguments, Object got) {
        if (call == 9 && arguments[0] == 0) {
            seen.merge("reason " + got, 1, Integer::sum);
        } else if (call == 12) {
            seen.merge("outcome " + got, 1, Integer::sum);
        } else if (call == 10) {
            seen.merge("same " + got, 1, Integer::sum);
        }
    }

    /**
     * Programs are built first; then they are read, checked and run more than changed. Those of bare blocks
     * get to pairs that other ones are refused before.
     */
    private static int pick(int i, boolean bare) {
        int[] building = {0, 1, 1, 1, 1, 1, 1, 2, 2};
        int[] using = {1, 1, 2, 5, 5, 6, 6, 7, 8, 8, 9, 9, 10, 10, 10, 11, 12, 12, 13, 14, 15};
        if (bare) {
            building = new int[] {0, 0, 2, 2, 2};
            using = new int[] {2, 5, 8, 8, 9, 9, 9, 9, 12};
        }
        if (i % 128 == 127) {
            return below(2) == 0 ? 3 : 4;
        }
        return i % 128 < 60 ? building[below(building.length)] : using[below(using.length)];
    }

    private static void choose(int call, int[] to, int registers) {
        to[0] = call == 5 || call == 9 ? near(3) : call == 14 ? near(8) : near(2);
        to[1] = near(3);
        switch (call) {
            case 1 -> {
                to[2] = near(10);
                to[3] = below(60) == 0 ? near(6) : below(registers);
                to[4] = below(60) == 0 ? near(6) : below(registers);
                to[5] = to[2] == 0 ? number() : below(60) == 0 ? near(6) : below(registers);
            }
            case 2 -> {
                to[2] = near(3);
                to[3] = near(6);
                to[4] = below(2) == 0 ? near(6) : below(3);
                to[5] = below(2) == 0 ? near(6) : below(3);
            }
            case 6 -> {
                to[2] = near(8);
                to[3] = near(4);
            }
            case 7 -> to[2] = near(5);
            case 10 -> {
                to[0] = near(3);
                to[1] = near(6);
                to[2] = near(3);
                to[3] = near(6);
            }
            case 12 -> {
                to[1] = number();
                to[2] = number();
                to[3] = below(2) == 0 ? below(30) : near(501);
            }
            default -> {
            }
        }
    }

    private static Object answer(Due.Call call) {
        try {
            return call.answer();
        } catch (RuntimeException thrown) {
            return thrown.getClass().getName();
        }
    }

    private static Object callMade(PassChecker x, int call, int[] of) {
        switch (call) {
            case 0: return x.block(of[0]);
            case 1: return x.code(of[0], of[1], of[2], of[3], of[4], of[5]);
            case 2: x.end(of[0], of[1], of[2], of[3], of[4], of[5]); return "";
            case 3: x.wipe(of[0]); return "";
            case 4: x.take(); return "";
            case 5: return x.pass(of[0]);
            case 6: return x.instruction(of[0], of[1], of[2], of[3]);
            case 7: return x.ending(of[0], of[1], of[2]);
            case 8: return x.check();
            case 9: return x.refused(of[0]);
            case 10: return x.same(of[0], of[1], of[2], of[3]);
            case 11: return x.effects(of[0], of[1]);
            case 12: return x.run(of[0], of[1], of[2], of[3]);
            case 13: return x.returned();
            case 14: return x.word(of[0]);
            default: return x.steps();
        }
    }

    private static Object callModel(Model x, int call, int[] of) {
        switch (call) {
            case 0: return x.block(of[0]);
            case 1: return x.code(of[0], of[1], of[2], of[3], of[4], of[5]);
            case 2: x.end(of[0], of[1], of[2], of[3], of[4], of[5]); return "";
            case 3: x.wipe(of[0]); return "";
            case 4: x.take(); return "";
            case 5: return x.pass(of[0]);
            case 6: return x.instruction(of[0], of[1], of[2], of[3]);
            case 7: return x.ending(of[0], of[1], of[2]);
            case 8: return x.check();
            case 9: return x.refused(of[0]);
            case 10: return x.same(of[0], of[1], of[2], of[3]);
            case 11: return x.effects(of[0], of[1]);
            case 12: return x.run(of[0], of[1], of[2], of[3]);
            case 13: return x.returned();
            case 14: return x.word(of[0]);
            default: return x.steps();
        }
    }
}
