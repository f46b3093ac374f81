import java.util.ArrayDeque;
import java.util.ArrayList;
import java.util.Arrays;
import java.util.Deque;
import java.util.List;
import java.util.Set;
import java.util.TreeSet;
import java.util.regex.Matcher;
import java.util.regex.Pattern;

/**
 * The document once more, written from its words with the Java library and with other means than
 * the class: a regular expression for the syntax, sets of blocks, chains as lists, all ways one by
 * one, a search for the needed budget.
 */
final class Model {
    private static final String LETTERS = "ascdjznh";
    private static final Pattern SYNTAX = Pattern.compile(
        " *((?:[as] *\\d{1,2}(?: +| *(?=-))-?\\d{1,2}|[cdzn] *\\d{1,2} +\\d{1,2}|j *\\d{1,2}|h) *; *)*");
    private static final Pattern NUMBER = Pattern.compile("\\d+");

    private record Instruction(int opcode, int register, int operand) {
        boolean jumps() {
            return opcode >= 4 && opcode <= 6;
        }
    }

    private record Saved(List<Instruction> program, int[] costs) {
    }

    private final StringBuilder text = new StringBuilder();
    private final Deque<Saved> saved = new ArrayDeque<>();
    private final int[] errors = new int[5];
    private List<Instruction> program = List.of();
    private int[] costs = {1, 1, 1, 1, 1, 1, 1, 1};
    private List<List<Integer>> blocks = List.of();
    private List<List<Integer>> chains = List.of();
    private int status = 0;
    private int steps = 0;
    private int remaining = 0;
    private int charges = 0;
    private int stoppedAt = -1;
    private int[] registers = new int[4];

    long call(String name, int a, int b) {
        switch (name) {
            case "append": return a < 0 || a > 127 ? refuse(-2) : text.length() == 150 ? refuse(-3) : text.append((char) a).length();
            case "clearText": return clearText();
            case "assemble": return assemble();
            case "setCost": return setCost(a, b);
            case "opcode": return a < 0 || a >= program.size() ? refuse(-2) : program.get(a).opcode();
            case "blocks": return blocks.size();
            case "blockOf": return a < 0 || a >= program.size() ? refuse(-2) : blockOf(a);
            case "successors": return noBlock(a) ? refuse(-2) : bits(successors(a));
            case "blockCost": return noBlock(a) ? refuse(-2) : blockCost(a);
            case "chainHead": return noBlock(a) ? refuse(-2) : chainOf(a).get(0);
            case "chainCost": return noBlock(a) ? refuse(-2) : chainCost(chainOf(a));
            case "reachableBlocks": return bits(reachable());
            case "greatestCost": return greatestCost();
            case "leastCost": return leastCost();
            case "run": return a < 0 || a > 2 || b < 0 || b > 30000 ? refuse(-2) : run(a, b);
            case "steps": return steps;
            case "remaining": return remaining;
            case "charges": return charges;
            case "register": return a < 0 || a > 3 ? 0 : registers[a];
            case "stoppedAt": return stoppedAt;
            case "chargeRateBits": return Float.floatToIntBits(steps == 0 ? 0.0f : (float) charges / (float) steps);
            case "neededBudget": return neededBudget();
            case "undo": return undo();
            case "errorCount": return a < -4 || a > -2 ? refuse(-2) : errors[-a];
            case "digest": return digest();
            default: throw new IllegalArgumentException(name);
        }
    }

    private int refuse(int code) {
        errors[-code]++;
        return code;
    }

    private int clearText() {
        int length = text.length();
        text.setLength(0);
        return length;
    }

    // ---- the text

    private int assemble() {
        int position = errorPosition(text.toString());
        if (position >= 0) {
            return -10 - position;
        }
        save();
        List<Instruction> read = new ArrayList<>();
        for (String part : text.toString().split(";")) {
            if (!part.isBlank()) {
                read.add(instruction(part.trim()));
            }
        }
        program = read;
        analyse();
        return program.size();
    }

    private static Instruction instruction(String words) {
        int opcode = LETTERS.indexOf(words.charAt(0));
        Matcher number = Pattern.compile("-?\\d+").matcher(words);
        int[] numbers = new int[2];
        int count = 0;
        while (number.find()) {
            numbers[count++] = Integer.parseInt(number.group());
        }
        return opcode == 4 ? new Instruction(4, 0, numbers[0]) : new Instruction(opcode, numbers[0], numbers[1]);
    }

    private static int errorPosition(String text) {
        int wrong = firstUnfit(text);
        int range = rangeError(text, wrong < 0 ? text.length() : wrong);
        int surplus = letterOf25th(text, wrong < 0 ? text.length() : wrong + 1);
        int least = Integer.MAX_VALUE;
        for (int position : new int[] {wrong, range, surplus}) {
            least = position >= 0 ? Math.min(least, position) : least;
        }
        return least == Integer.MAX_VALUE ? -1 : least;
    }

    /** The first byte with which the text before it can't be the beginning of a right text. */
    private static int firstUnfit(String text) {
        for (int end = 1; end <= text.length(); end++) {
            Matcher matcher = SYNTAX.matcher(text.substring(0, end));
            if (!matcher.matches() && !matcher.hitEnd()) {
                return end - 1;
            }
        }
        return SYNTAX.matcher(text).matches() ? -1 : text.length();
    }

    private static int rangeError(String text, int end) {
        Matcher number = NUMBER.matcher(text.substring(0, end));
        while (number.find()) {
            boolean longer = number.end() < text.length() && Character.isDigit(text.charAt(number.end()));
            if (!longer && Integer.parseInt(number.group()) > limit(text, number.start())) {
                return number.start();
            }
        }
        return -1;
    }

    private static int limit(String text, int start) {
        String before = text.substring(text.lastIndexOf(';', start) + 1, start).trim();
        boolean first = !NUMBER.matcher(before).find();
        char letter = before.charAt(0);
        if (letter == 'j') {
            return 24;
        }
        if (first || letter == 'c' || letter == 'd') {
            return 3;
        }
        return letter == 'a' || letter == 's' ? 99 : 24;
    }

    private static int letterOf25th(String text, int end) {
        int letters = 0;
        for (int i = 0; i < Math.min(end, text.length()); i++) {
            if (LETTERS.indexOf(text.charAt(i)) >= 0 && ++letters == 25) {
                return i;
            }
        }
        return -1;
    }

    // ---- state

    private void save() {
        saved.addLast(new Saved(program, costs.clone()));
        if (saved.size() > 5) {
            saved.removeFirst();
        }
    }

    private int setCost(int opcode, int cost) {
        if (opcode < 0 || opcode > 7 || cost < 1 || cost > 9) {
            return refuse(-2);
        }
        save();
        int before = costs[opcode];
        costs[opcode] = cost;
        return before;
    }

    private int undo() {
        if (saved.isEmpty()) {
            return refuse(-4);
        }
        Saved last = saved.removeLast();
        program = last.program();
        costs = last.costs();
        analyse();
        return saved.size();
    }

    // ---- control flow

    private void analyse() {
        Set<Integer> leaders = new TreeSet<>();
        for (int i = 0; i < program.size(); i++) {
            if (i == 0 || program.get(i - 1).opcode() >= 4) {
                leaders.add(i);
            }
            if (program.get(i).jumps() && program.get(i).operand() < program.size()) {
                leaders.add(program.get(i).operand());
            }
        }
        blocks = new ArrayList<>();
        for (int i = 0; i < program.size(); i++) {
            if (leaders.contains(i)) {
                blocks.add(new ArrayList<>());
            }
            blocks.get(blocks.size() - 1).add(i);
        }
        findChains();
    }

    private boolean noBlock(int block) {
        return block < 0 || block >= blocks.size();
    }

    private int blockOf(int index) {
        for (int b = 0; b < blocks.size(); b++) {
            if (blocks.get(b).contains(index)) {
                return b;
            }
        }
        return -1;
    }

    /** The numbers at which a run can go on behind a block; 99 stands for the end of the run. */
    private Set<Integer> exits(int block) {
        List<Integer> inside = blocks.get(block);
        int last = inside.get(inside.size() - 1);
        Instruction instruction = program.get(last);
        Set<Integer> exits = new TreeSet<>();
        if (instruction.opcode() == 7) {
            exits.add(99);
        }
        if (instruction.jumps()) {
            exits.add(instruction.operand() < program.size() ? instruction.operand() : 99);
        }
        if (instruction.opcode() != 4 && instruction.opcode() != 7) {
            exits.add(last + 1 < program.size() ? last + 1 : 99);
        }
        return exits;
    }

    private Set<Integer> successors(int block) {
        Set<Integer> result = new TreeSet<>();
        for (int exit : exits(block)) {
            if (exit != 99) {
                result.add(blockOf(exit));
            }
        }
        return result;
    }

    private Set<Integer> predecessors(int block) {
        Set<Integer> result = new TreeSet<>();
        for (int b = 0; b < blocks.size(); b++) {
            if (successors(b).contains(block)) {
                result.add(b);
            }
        }
        return result;
    }

    private boolean canEnd(int block) {
        return exits(block).contains(99);
    }

    private boolean joined(int q, int p) {
        return successors(p).equals(Set.of(q)) && !canEnd(p) && predecessors(q).equals(Set.of(p)) && q != 0 && q != p;
    }

    /** Chains grow forward from the blocks that are joined to none; what is left over is rings. */
    private void findChains() {
        chains = new ArrayList<>();
        Set<Integer> left = new TreeSet<>();
        for (int b = 0; b < blocks.size(); b++) {
            left.add(b);
        }
        for (int b = 0; b < blocks.size(); b++) {
            boolean first = true;
            for (int p = 0; p < blocks.size(); p++) {
                first &= !joined(b, p);
            }
            if (first) {
                chains.add(grow(b, left));
            }
        }
        while (!left.isEmpty()) {
            chains.add(grow(left.iterator().next(), left));
        }
    }

    private List<Integer> grow(int head, Set<Integer> left) {
        List<Integer> chain = new ArrayList<>();
        int at = head;
        while (at >= 0 && left.remove(at)) {
            chain.add(at);
            int next = -1;
            for (int q : left) {
                next = joined(q, at) ? q : next;
            }
            at = next;
        }
        return chain;
    }

    private List<Integer> chainOf(int block) {
        for (List<Integer> chain : chains) {
            if (chain.contains(block)) {
                return chain;
            }
        }
        throw new IllegalStateException();
    }

    private int blockCost(int block) {
        int sum = 0;
        for (int index : blocks.get(block)) {
            sum += costs[program.get(index).opcode()];
        }
        return sum;
    }

    private int chainCost(List<Integer> chain) {
        int sum = 0;
        for (int block : chain) {
            sum += blockCost(block);
        }
        return sum;
    }

    private static int bits(Set<Integer> set) {
        int bits = 0;
        for (int element : set) {
            bits |= 1 << element;
        }
        return bits;
    }

    private Set<Integer> reachable() {
        Set<Integer> seen = new TreeSet<>();
        Deque<Integer> open = new ArrayDeque<>();
        if (!blocks.isEmpty()) {
            open.add(0);
        }
        while (!open.isEmpty()) {
            int block = open.removeFirst();
            if (seen.add(block)) {
                open.addAll(successors(block));
            }
        }
        return seen;
    }

    private int greatestCost() {
        if (blocks.isEmpty()) {
            return 0;
        }
        for (int block : reachable()) {
            Set<Integer> behind = new TreeSet<>();
            Deque<Integer> open = new ArrayDeque<>(successors(block));
            while (!open.isEmpty()) {
                int next = open.removeFirst();
                if (behind.add(next)) {
                    open.addAll(successors(next));
                }
            }
            if (behind.contains(block)) {
                return -1;
            }
        }
        int[] far = new int[blocks.size()];
        Arrays.fill(far, -1);
        return farthest(0, far);
    }

    private int farthest(int block, int[] far) {
        if (far[block] < 0) {
            int behind = 0;
            for (int next : successors(block)) {
                behind = Math.max(behind, farthest(next, far));
            }
            far[block] = blockCost(block) + behind;
        }
        return far[block];
    }

    /** The cheapest open way is taken first. */
    private int leastCost() {
        if (blocks.isEmpty()) {
            return 0;
        }
        int[] best = new int[blocks.size()];
        Arrays.fill(best, Integer.MAX_VALUE);
        best[0] = blockCost(0);
        Set<Integer> done = new TreeSet<>();
        while (true) {
            int nearest = -1;
            for (int b = 0; b < best.length; b++) {
                if (!done.contains(b) && best[b] != Integer.MAX_VALUE && (nearest < 0 || best[b] < best[nearest])) {
                    nearest = b;
                }
            }
            if (nearest < 0) {
                return -1;
            }
            if (canEnd(nearest)) {
                return best[nearest];
            }
            done.add(nearest);
            for (int next : successors(nearest)) {
                best[next] = Math.min(best[next], best[nearest] + blockCost(next));
            }
        }
    }

    // ---- runs

    /** Units are what is charged at once: the sequences of instructions of blocks or chains. */
    private int run(int mode, int budget) {
        status = -1;
        steps = 0;
        remaining = budget;
        charges = 0;
        stoppedAt = -1;
        registers = new int[4];
        int at = 0;
        while (status < 0) {
            if (at >= program.size()) {
                status = 0;
            } else if (mode == 0) {
                at = runUnit(List.of(at), false);
            } else {
                List<Integer> unit = new ArrayList<>();
                for (int block : mode == 1 ? List.of(blockOf(at)) : chainOf(blockOf(at))) {
                    unit.addAll(blocks.get(block));
                }
                if (unit.get(0) != at) {
                    throw new IllegalStateException("a unit is entered in its middle");
                }
                at = runUnit(unit, true);
            }
        }
        return status;
    }

    private int runUnit(List<Integer> unit, boolean whole) {
        int price = 0;
        for (int index : unit) {
            price += costs[program.get(index).opcode()];
        }
        boolean paid = whole && steps < 3000 && remaining >= price;
        if (paid) {
            remaining -= price;
            charges++;
        }
        int next = -1;
        for (int index : unit) {
            if (next >= 0 && next != index) {
                throw new IllegalStateException("a unit is left in its middle");
            }
            int cost = costs[program.get(index).opcode()];
            if (steps == 3000 || !paid && remaining < cost) {
                status = steps == 3000 ? 2 : 1;
                stoppedAt = index;
                return index;
            }
            if (!paid) {
                remaining -= cost;
                charges++;
            }
            steps++;
            next = execute(index);
        }
        return next;
    }

    private int execute(int at) {
        Instruction i = program.get(at);
        int[] r = registers;
        int x = i.register();
        switch (i.opcode()) {
            case 0 -> r[x] += i.operand();
            case 1 -> r[x] = i.operand();
            case 2 -> r[x] = r[i.operand()];
            case 3 -> r[x] -= r[i.operand()];
            default -> { }
        }
        boolean taken = i.opcode() == 4 || i.opcode() == 5 && r[x] == 0 || i.opcode() == 6 && r[x] < 0;
        return i.opcode() == 7 ? Integer.MAX_VALUE : taken ? i.operand() : at + 1;
    }

    /** A search by halves over real runs in mode 1; a higher budget never ends less. */
    private int neededBudget() {
        int[] kept = {status, steps, remaining, charges, stoppedAt};
        int[] keptRegisters = registers;
        int low = 0;
        int high = 30001;
        while (low < high) {
            int middle = (low + high) / 2;
            if (middle <= 30000 && run(1, middle) != 0) {
                low = middle + 1;
            } else {
                high = middle;
            }
        }
        status = kept[0];
        steps = kept[1];
        remaining = kept[2];
        charges = kept[3];
        stoppedAt = kept[4];
        registers = keptRegisters;
        return low > 30000 ? -1 : low;
    }

    private long digest() {
        List<Integer> values = new ArrayList<>(List.of(errors[2], errors[3], errors[4], text.length()));
        for (int cost : costs) {
            values.add(cost);
        }
        values.add(program.size());
        for (Instruction instruction : program) {
            values.add(instruction.opcode());
        }
        values.add(blocks.size());
        for (int b = 0; b < blocks.size(); b++) {
            values.addAll(List.of(bits(successors(b)), blockCost(b), chainOf(b).get(0), chainCost(chainOf(b))));
        }
        values.addAll(List.of(bits(reachable()), greatestCost(), leastCost(), status, steps, remaining, charges));
        for (int register : registers) {
            values.add(register);
        }
        values.addAll(List.of(stoppedAt, saved.size()));
        long hash = 2663;
        for (int value : values) {
            hash = 31 * hash + value;
        }
        return hash;
    }
}
