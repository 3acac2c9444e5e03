import java.util.ArrayList;
import java.util.Arrays;
import java.util.List;
import java.util.Map;
import java.util.TreeMap;

/**
 * The document written a second time, as plainly as the library allows: values are texts, and nothing is
 * kept from one call to the next but what the document says. ModelTest holds the class against it.
 */
final class Model {
    /** A block: instructions of operation, D, A, B, and an end of kind, A, X, Y. */
    private static final class Block {
        final List<int[]> codes = new ArrayList<>();
        int[] end = {2, 0, 0, 0};

        Block copy() {
            Block copy = new Block();
            for (int[] code : codes) {
                copy.codes.add(code.clone());
            }
            copy.end = end.clone();
            return copy;
        }
    }

    /** What the checker makes of a block. */
    private static final class Result {
        final List<Map<String, Integer>> registers = new ArrayList<>();
        final List<String> effects = new ArrayList<>();
        String end = "";
        final List<Integer> goals = new ArrayList<>();
    }

    private final List<List<Block>> programs = new ArrayList<>(List.of(new ArrayList<>(), new ArrayList<>()));
    private int why = -1;
    private int[] refusedPair = {-1, -1};
    private int returned = 0;
    private int steps = 0;
    private int[] memory = new int[8];

    private static void need(boolean holds, RuntimeException otherwise) {
        if (!holds) {
            throw otherwise;
        }
    }

    private static boolean below(int bound, int x) {
        return x >= 0 && x < bound;
    }

    private List<Block> program(int program) {
        need(below(2, program), new IndexOutOfBoundsException());
        return programs.get(program);
    }

    private Block blockOf(int program, int block) {
        need(below(program(program).size(), block), new IndexOutOfBoundsException());
        return program(program).get(block);
    }

    int block(int program) {
        need(program(program).size() < 6, new IllegalStateException());
        why = -1;
        program(program).add(new Block());
        return program(program).size() - 1;
    }

    private static boolean usesD(int operation) {
        return operation != 9;
    }

    private static boolean usesA(int operation) {
        return operation != 0;
    }

    private static boolean usesB(int operation) {
        return operation != 0 && operation != 1 && operation != 8;
    }

    int code(int program, int block, int operation, int d, int a, int b) {
        Block changed = blockOf(program, block);
        need(below(10, operation), new IllegalArgumentException());
        need(below(6, d) || !usesD(operation), new IllegalArgumentException());
        need(below(6, a) || !usesA(operation), new IllegalArgumentException());
        need(below(6, b) || !usesB(operation), new IllegalArgumentException());
        need(changed.codes.size() < 8, new IllegalStateException());
        why = -1;
        changed.codes.add(new int[] {operation, usesD(operation) ? d : 0, usesA(operation) ? a : 0,
            usesB(operation) || operation == 0 ? b : 0});
        return changed.codes.size() - 1;
    }

    void end(int program, int block, int kind, int a, int x, int y) {
        Block changed = blockOf(program, block);
        need(below(3, kind), new IllegalArgumentException());
        need(kind == 0 || below(6, a), new IllegalArgumentException());
        need(kind == 2 || below(6, x), new IllegalArgumentException());
        need(kind != 1 || below(6, y), new IllegalArgumentException());
        why = -1;
        int[][] ends = {{0, 0, x, 0}, {1, a, x, y}, {2, a, 0, 0}};
        changed.end = ends[kind];
    }

    void wipe(int program) {
        program(program).clear();
        why = -1;
    }

    int pass(int kind) {
        need(below(3, kind), new IllegalArgumentException());
        why = -1;
        programs.get(1).clear();
        int others = 0;
        for (Block from : programs.get(0)) {
            Block made = kind == 0 ? fold(from) : kind == 1 ? reuse(from) : order(from);
            programs.get(1).add(made);
            for (int i = 0; i < from.codes.size(); i++) {
                others += Arrays.equals(from.codes.get(i), made.codes.get(i)) ? 0 : 1;
            }
            others += Arrays.equals(from.end, made.end) ? 0 : 1;
        }
        return others;
    }

    private static int arithmetic(int operation, int a, int b) {
        return switch (operation) {
            case 2 -> a + b;
            case 3 -> a - b;
            case 4 -> a * b;
            case 5 -> a & b;
            case 6 -> a < b ? 1 : 0;
            default -> a / b;
        };
    }

    private static Block fold(Block from) {
        Block made = from.copy();
        Map<Integer, Integer> known = new TreeMap<>();
        for (int[] code : made.codes) {
            if (code[0] == 9) {
                continue;
            }
            Integer a = known.get(code[2]);
            Integer b = known.get(code[3]);
            Integer number = null;
            if (code[0] == 0) {
                number = code[3];
            } else if (code[0] == 1) {
                number = a;
            } else if (code[0] <= 7 && a != null && b != null && !(code[0] == 7 && b == 0)) {
                number = arithmetic(code[0], a, b);
            }
            known.remove(code[1]);
            if (number != null) {
                known.put(code[1], number);
                code[0] = 0;
                code[2] = 0;
                code[3] = number;
            }
        }
        if (made.end[0] == 1 && known.containsKey(made.end[1])) {
            made.end = new int[] {0, 0, known.get(made.end[1]) != 0 ? made.end[2] : made.end[3], 0};
        }
        return made;
    }

    private static Block reuse(Block from) {
        Block made = from.copy();
        for (int i = 0; i < from.codes.size(); i++) {
            int[] now = from.codes.get(i);
            for (int j = i - 1; j >= 0; j--) {
                int[] then = from.codes.get(j);
                if (now[0] >= 2 && now[0] <= 8 && then[0] == now[0] && then[2] == now[2] && then[3] == now[3]
                        && holds(from.codes.subList(j, i))) {
                    made.codes.set(i, new int[] {1, now[1], then[1], 0});
                }
            }
        }
        return made;
    }

    private static boolean holds(List<int[]> since) {
        int[] first = since.get(0);
        for (int[] code : since) {
            boolean writesRead = usesD(code[0])
                    && (code[1] == first[2] || usesB(first[0]) && code[1] == first[3]);
            boolean writesResult = code != first && usesD(code[0]) && code[1] == first[1];
            if (writesRead || writesResult || first[0] == 8 && code[0] == 9) {
                return false;
            }
        }
        return true;
    }

    private static Block order(Block from) {
        Block made = from.copy();
        made.codes.clear();
        List<int[]> left = new ArrayList<>(from.codes);
        while (!left.isEmpty()) {
            int[] next = null;
            for (int i = 0; i < left.size(); i++) {
                boolean free = true;
                for (int j = 0; j < i; j++) {
                    free &= !depend(left.get(i), left.get(j));
                }
                if (free && (next == null || height(from.codes, left.get(i)) > height(from.codes, next))) {
                    next = left.get(i);
                }
            }
            int[] chosen = next;
            left.removeIf(code -> code == chosen);
            made.codes.add(chosen.clone());
        }
        return made;
    }

    private static int height(List<int[]> codes, int[] of) {
        int most = 0;
        boolean behind = false;
        for (int[] code : codes) {
            if (behind && depend(code, of)) {
                most = Math.max(most, height(codes, code));
            }
            behind |= code == of;
        }
        return most + switch (of[0]) {
            case 4 -> 3;
            case 7 -> 4;
            case 8 -> 2;
            default -> 1;
        };
    }

    private static boolean depend(int[] one, int[] other) {
        return one[0] >= 7 && other[0] >= 7 || writesFor(one, other) || writesFor(other, one);
    }

    private static boolean writesFor(int[] writer, int[] user) {
        return usesD(writer[0]) && (usesD(user[0]) && user[1] == writer[1]
                || usesA(user[0]) && user[2] == writer[1] || usesB(user[0]) && user[3] == writer[1]);
    }

    void take() {
        why = -1;
        programs.get(0).clear();
        for (Block block : programs.get(1)) {
            programs.get(0).add(block.copy());
        }
    }

    int instruction(int program, int block, int i, int what) {
        Block read = blockOf(program, block);
        need(below(read.codes.size(), i), new IndexOutOfBoundsException());
        need(below(4, what), new IllegalArgumentException());
        return read.codes.get(i)[what];
    }

    int ending(int program, int block, int what) {
        Block read = blockOf(program, block);
        need(below(5, what), new IllegalArgumentException());
        return what == 4 ? read.codes.size() : read.end[what];
    }

    private static Map<String, Integer> sum(Map<String, Integer> one, Map<String, Integer> other, int times) {
        Map<String, Integer> all = new TreeMap<>(one);
        other.forEach((atom, many) -> all.merge(atom, many * times, Integer::sum));
        all.values().removeIf(many -> many == 0);
        return all;
    }

    /** The number of a value stands under the empty text. */
    private static Map<String, Integer> number(int number) {
        return sum(Map.of("", number), Map.of(), 0);
    }

    private static Integer asNumber(Map<String, Integer> value) {
        return value.isEmpty() ? Integer.valueOf(0) : value.size() == 1 ? value.get("") : null;
    }

    private static Map<String, Integer> atom(String kind, Object one, Object other) {
        return Map.of(kind + "(" + one + "," + other + ")", 1);
    }

    private static Map<String, Integer> anyOrder(String kind, Object one, Object other) {
        boolean swap = one.toString().compareTo(other.toString()) > 0;
        return new TreeMap<>(swap ? atom(kind, other, one) : atom(kind, one, other));
    }

    private static Map<String, Integer> product(Map<String, Integer> a, Map<String, Integer> b) {
        Integer one = asNumber(a);
        Integer other = asNumber(b);
        if (one != null) {
            return sum(Map.of(), b, one);
        }
        return other != null ? sum(Map.of(), a, other) : anyOrder("*", a, b);
    }

    private static Map<String, Integer> and(Map<String, Integer> a, Map<String, Integer> b) {
        Integer one = asNumber(a);
        Integer other = asNumber(b);
        if (one != null && other != null) {
            return number(one & other);
        }
        if (a.equals(b)) {
            return a;
        }
        if (Integer.valueOf(0).equals(one) || Integer.valueOf(0).equals(other)) {
            return number(0);
        }
        if (Integer.valueOf(-1).equals(one)) {
            return b;
        }
        return Integer.valueOf(-1).equals(other) ? a : anyOrder("&", a, b);
    }

    private static Map<String, Integer> less(Map<String, Integer> a, Map<String, Integer> b) {
        Integer one = asNumber(a);
        Integer other = asNumber(b);
        if (one != null && other != null) {
            return number(one < other ? 1 : 0);
        }
        return a.equals(b) ? number(0) : new TreeMap<>(atom("<", a, b));
    }

    private static Map<String, Integer> quotient(Map<String, Integer> a, Map<String, Integer> b, Result result) {
        Integer one = asNumber(a);
        Integer other = asNumber(b);
        Map<String, Integer> made = new TreeMap<>(atom("/", a, b));
        if (other != null && other != 0) {
            return one != null ? number(one / other) : other == 1 ? a : made;
        }
        if (!result.effects.contains(made.toString())) {
            result.effects.add(made.toString());
        }
        return made;
    }

    private Result workOut(int program, int block) {
        Result result = new Result();
        for (int register = 0; register < 6; register++) {
            result.registers.add(new TreeMap<>(Map.of("r" + register, 1)));
        }
        Block read = block < programs.get(program).size() ? programs.get(program).get(block) : new Block();
        int stores = 0;
        List<String> loads = new ArrayList<>();
        for (int[] code : read.codes) {
            Map<String, Integer> a = result.registers.get(code[2]);
            Map<String, Integer> b = usesB(code[0]) ? result.registers.get(code[3]) : null;
            if (code[0] == 9) {
                result.effects.add("store " + a + " " + b);
                stores++;
            } else if (code[0] == 8) {
                Map<String, Integer> made = new TreeMap<>(atom("load", a, stores));
                Integer place = asNumber(a);
                if (!(place != null && place >= 0 && place <= 7) && !loads.contains(made.toString())) {
                    result.effects.add(made.toString());
                }
                loads.add(made.toString());
                result.registers.set(code[1], made);
            } else {
                result.registers.set(code[1], switch (code[0]) {
                    case 0 -> number(code[3]);
                    case 1 -> a;
                    case 2 -> sum(a, b, 1);
                    case 3 -> sum(a, b, -1);
                    case 4 -> product(a, b);
                    case 5 -> and(a, b);
                    case 6 -> less(a, b);
                    default -> quotient(a, b, result);
                });
            }
        }
        workOutEnd(result, read.end);
        return result;
    }

    private static void workOutEnd(Result result, int[] end) {
        Map<String, Integer> value = result.registers.get(end[1]);
        Integer number = asNumber(value);
        if (end[0] == 2) {
            result.end = "return " + value;
        } else if (end[0] == 0 || end[2] == end[3] || number != null && number != 0) {
            result.end = "go";
            result.goals.add(end[2]);
        } else if (number != null) {
            result.end = "go";
            result.goals.add(end[3]);
        } else {
            result.end = "if " + value;
            result.goals.add(end[2]);
            result.goals.add(end[3]);
        }
    }

    int check() {
        Map<Integer, Integer> partners = new TreeMap<>(Map.of(0, 0));
        List<Integer> order = new ArrayList<>(List.of(0));
        for (int i = 0; i < order.size(); i++) {
            int block = order.get(i);
            int partner = partners.get(block);
            Result source = workOut(0, block);
            Result target = workOut(1, partner);
            need(source.effects.equals(target.effects), refuse(2, block, partner));
            need(source.end.equals(target.end), refuse(3, block, partner));
            need(source.goals.isEmpty() || source.registers.equals(target.registers), refuse(4, block, partner));
            for (int goal = 0; goal < source.goals.size(); goal++) {
                int next = source.goals.get(goal);
                Integer had = partners.putIfAbsent(next, target.goals.get(goal));
                if (had == null) {
                    order.add(next);
                } else {
                    need(had.equals(target.goals.get(goal)), refuse(1, next, target.goals.get(goal)));
                }
            }
        }
        why = 0;
        refusedPair = new int[] {-1, -1};
        return order.size();
    }

    /** Also called for a pair that is not refused: check() then writes over it in the end. */
    private RuntimeException refuse(int reason, int block, int partner) {
        why = reason;
        refusedPair = new int[] {block, partner};
        return new UnsupportedOperationException();
    }

    int refused(int what) {
        need(below(3, what), new IllegalArgumentException());
        return what == 0 ? why : refusedPair[what - 1];
    }

    boolean same(int block, int register, int other, int second) {
        blockOf(0, block);
        blockOf(1, other);
        need(below(6, register) && below(6, second), new IndexOutOfBoundsException());
        return workOut(0, block).registers.get(register).equals(workOut(1, other).registers.get(second));
    }

    int effects(int program, int block) {
        blockOf(program, block);
        return workOut(program, block).effects.size();
    }

    int run(int program, int first, int second, int most) {
        List<Block> read = program(program);
        need(below(501, most), new IllegalArgumentException());
        int[] registers = {first, second, 0, 0, 0, 0};
        memory = new int[8];
        steps = 0;
        returned = 0;
        int block = 0;
        while (true) {
            Block now = block < read.size() ? read.get(block) : new Block();
            for (int[] code : now.codes) {
                if (steps == most) {
                    return 0;
                }
                int a = registers[code[2]];
                int b = usesB(code[0]) ? registers[code[3]] : 0;
                if (code[0] == 7 && b == 0) {
                    return 2;
                }
                if (code[0] >= 8 && !below(8, a)) {
                    return code[0] - 5;
                }
                if (code[0] == 9) {
                    memory[a] = b;
                } else {
                    registers[code[1]] = code[0] == 0 ? code[3] : code[0] == 1 ? a : code[0] == 8 ? memory[a]
                            : arithmetic(code[0], a, b);
                }
                steps++;
            }
            if (steps == most) {
                return 0;
            }
            steps++;
            if (now.end[0] == 2) {
                returned = registers[now.end[1]];
                return 1;
            }
            block = now.end[0] == 1 && registers[now.end[1]] == 0 ? now.end[3] : now.end[2];
        }
    }

    int returned() {
        return returned;
    }

    int word(int at) {
        need(below(8, at), new IndexOutOfBoundsException());
        return memory[at];
    }

    int steps() {
        return steps;
    }
}
