import java.lang.reflect.InvocationTargetException;
import java.lang.reflect.Method;
import java.lang.reflect.Modifier;
import java.util.Arrays;
import java.util.HashMap;
import java.util.Map;
import java.util.TreeMap;

/**
 * Long runs of calls, each answer held against the model's. The runs are always the same ones: a counter of
 * its own picks the calls. At the end it must have seen every answer that is rare.
 */
public final class ModelTest {
    private static final int OBJECTS = 2000;
    private static final int CALLS = 512;
    private static final int[] NUMBERS = {0, 1, -1, 2, 3, 7, 8, -2, Integer.MIN_VALUE, Integer.MAX_VALUE, 1 << 16};

    private static final String[] BUILDING = "block code code code code code code end end".split(" ");
    private static final String[] USING = ("code code end pass pass instruction instruction ending check check"
            + " refused refused same same same effects run run returned word steps").split(" ");
    private static final String[] BARE_BUILDING = "block block end end end".split(" ");
    private static final String[] BARE_USING = "end pass check check refused refused refused refused run".split(" ");
    private static final Map<Class<?>, Map<String, Method>> METHODS = new HashMap<>();

    private static long seed = 20261115;
    private static final Map<String, Integer> seen = new TreeMap<>();

    public static void main(String[] args) {
        for (int object = 0; object < OBJECTS; object++) {
            runOne(object);
        }
        for (int reason = 0; reason <= 4; reason++) {
            wasSeen("reason " + reason);
            wasSeen("outcome " + reason);
        }
        wasSeen("same true");
        wasSeen("same false");
        Due.finish();
    }

    private static void wasSeen(String answer) {
        Due.is(answer + " was seen often", seen.getOrDefault(answer, 0) > 50, true);
    }

    private static int below(int bound) {
        seed = seed * 6364136223846793005L + 1442695040888963407L;
        return (int) ((seed >>> 33) % bound);
    }

    /** Mostly 0 .. bound - 1, now and then one beside it. */
    private static int near(int bound) {
        return below(40) != 0 ? below(bound) : below(2) == 0 ? -1 : bound;
    }

    private static int number() {
        return below(3) == 0 ? NUMBERS[below(NUMBERS.length)] : below(9);
    }

    private static void runOne(int object) {
        PassChecker made = new PassChecker();
        Model model = new Model();
        int[] arguments = new int[6];
        int registers = 2 + below(5);
        boolean bare = below(3) == 0;
        for (int i = 0; i < CALLS; i++) {
            String call = pick(i, bare);
            choose(call, arguments, registers);
            Object got = answer(made, call, arguments);
            Object want = answer(model, call, arguments);
            count(call, arguments, got);
            if (!got.equals(want)) {
                Due.is("object " + object + ", call " + i + ", " + call + Arrays.toString(arguments), got, want);
                return;
            }
        }
    }

    private static void count(String call, int[] arguments, Object got) {
        if (call.equals("refused") && arguments[0] == 0) {
            seen.merge("reason " + got, 1, Integer::sum);
        } else if (call.equals("run")) {
            seen.merge("outcome " + got, 1, Integer::sum);
        } else if (call.equals("same")) {
            seen.merge("same " + got, 1, Integer::sum);
        }
    }

    /**
     * Programs are built first; then they are read, checked and run more than changed. Those of bare blocks
     * get to pairs that other ones are refused before.
     */
    private static String pick(int i, boolean bare) {
        if (i % 128 == 127) {
            return below(2) == 0 ? "wipe" : "take";
        }
        String[] from = i % 128 < 60 ? bare ? BARE_BUILDING : BUILDING : bare ? BARE_USING : USING;
        return from[below(from.length)];
    }

    private static void choose(String call, int[] to, int registers) {
        to[0] = near(2);
        to[1] = near(3);
        switch (call) {
            case "pass", "refused" -> to[0] = near(3);
            case "word" -> to[0] = near(8);
            case "code" -> {
                to[2] = near(10);
                to[3] = below(60) == 0 ? near(6) : below(registers);
                to[4] = below(60) == 0 ? near(6) : below(registers);
                to[5] = to[2] == 0 ? number() : below(60) == 0 ? near(6) : below(registers);
            }
            case "end" -> {
                to[2] = near(3);
                to[3] = near(6);
                to[4] = below(2) == 0 ? near(6) : below(3);
                to[5] = below(2) == 0 ? near(6) : below(3);
            }
            case "instruction" -> {
                to[2] = near(8);
                to[3] = near(4);
            }
            case "ending" -> to[2] = near(5);
            case "same" -> {
                to[0] = near(3);
                to[1] = near(6);
                to[2] = near(3);
                to[3] = near(6);
            }
            case "run" -> {
                to[1] = number();
                to[2] = number();
                to[3] = below(2) == 0 ? below(30) : near(501);
            }
            default -> {
            }
        }
    }

    /** Calls a method by its name, with as many of the arguments as it takes. */
    private static Object answer(Object on, String name, int[] arguments) {
        try {
            Method method = methods(on.getClass()).get(name);
            Object[] taken = new Object[method.getParameterCount()];
            for (int i = 0; i < taken.length; i++) {
                taken[i] = arguments[i];
            }
            return String.valueOf(method.invoke(on, taken));
        } catch (InvocationTargetException thrown) {
            return thrown.getCause().getClass().getName();
        } catch (IllegalAccessException hidden) {
            throw new IllegalStateException(hidden);
        }
    }

    private static Map<String, Method> methods(Class<?> type) {
        Map<String, Method> found = METHODS.get(type);
        if (found == null) {
            found = new TreeMap<>();
            for (Method method : type.getDeclaredMethods()) {
                if (!Modifier.isPrivate(method.getModifiers())) {
                    found.put(method.getName(), method);
                }
            }
            METHODS.put(type, found);
        }
        return found;
    }
}
