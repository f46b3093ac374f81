import java.util.Random;

/** Long random runs of calls, the class beside the model; the seeds are fixed. */
public final class ModelTest {
    private static final String[] QUERIES = {
        "blocks", "reachableBlocks", "greatestCost", "leastCost", "steps", "remaining", "charges", "stoppedAt",
        "chargeRateBits", "neededBudget", "digest", "register", "opcode", "blockOf", "successors", "blockCost",
        "chainHead", "chainCost", "errorCount"};
    private static final int[] EDGES = {Integer.MIN_VALUE, -5, -1, 0, 1, 24, 25, 149, 150, 30000, 30001, Integer.MAX_VALUE};

    /** What an object answers to later calls is free. */
    private static final int MOST_CALLS = 512;

    private final Random random;
    private final int seed;
    private final BudgetMeter meter = new BudgetMeter();
    private final Model model = new Model();
    private int calls = 0;

    private ModelTest(int seed) {
        this.seed = seed;
        random = new Random(seed);
    }

    public static void main(String[] args) {
        for (int seed = 0; seed < 1500; seed++) {
            new ModelTest(seed).play();
        }
        Script.report();
    }

    private void play() {
        while (calls < MOST_CALLS - 1) {
            int what = random.nextInt(10);
            if (what < 2) {
                write(what == 0 ? soundText() : spoiled(soundText()));
                both("assemble", 0, 0);
            } else if (what < 3) {
                both("setCost", random.nextInt(9), random.nextInt(11));
            } else if (what < 4) {
                both("undo", 0, 0);
            } else if (what < 5) {
                both(random.nextBoolean() ? "append" : "assemble", edge(128), 0);
            } else if (what < 7) {
                runs();
            } else {
                both(QUERIES[random.nextInt(QUERIES.length)], edge(25), 0);
            }
        }
        compare("digest", 0, 0);
    }

    private void runs() {
        int needed = (int) model.call("neededBudget", 0, 0);
        int budget = needed > 0 && random.nextBoolean() ? random.nextInt(needed + 2) : edge(random.nextBoolean() ? 60 : 30001);
        for (int mode = 0; mode < 3; mode++) {
            both("run", random.nextInt(30) == 0 ? edge(4) : mode, budget);
            for (String result : new String[] {"steps", "remaining", "charges", "stoppedAt", "chargeRateBits"}) {
                both(result, 0, 0);
            }
            both("register", random.nextInt(4), 0);
        }
        both("neededBudget", 0, 0);
        both("digest", 0, 0);
    }

    private int edge(int bound) {
        return random.nextInt(8) == 0 ? EDGES[random.nextInt(EDGES.length)] : random.nextInt(bound) - random.nextInt(2) * random.nextInt(6);
    }

    private void write(String text) {
        both("clearText", 0, 0);
        for (char sign : text.toCharArray()) {
            both("append", sign, 0);
        }
    }

    private String soundText() {
        StringBuilder text = new StringBuilder();
        int count = random.nextInt(random.nextInt(3) == 0 ? 27 : 9);
        int jumps = random.nextInt(8) + 1;
        for (int i = 0; i < count; i++) {
            int opcode = random.nextInt(jumps) == 0 ? random.nextInt(4) : random.nextInt(8);
            text.append(spaces(false)).append("ascdjznh".charAt(opcode)).append(spaces(false));
            if (opcode != 4 && opcode != 7) {
                text.append(random.nextInt(4));
                String operand = opcode < 2 ? String.valueOf(random.nextInt(199) - 99) : "";
                operand = opcode == 2 || opcode == 3 ? String.valueOf(random.nextInt(4)) : operand;
                operand = opcode > 4 ? target(count) : operand;
                text.append(spaces(!operand.startsWith("-"))).append(operand);
            } else if (opcode == 4) {
                text.append(target(count));
            }
            text.append(spaces(false)).append(';');
        }
        return text.append(spaces(false)).toString();
    }

    private String target(int count) {
        int target = random.nextInt(12) == 0 ? random.nextInt(25) : Math.min(24, random.nextInt(count + 1));
        return target < 10 && random.nextInt(6) == 0 ? "0" + target : String.valueOf(target);
    }

    private String spaces(boolean needed) {
        return " ".repeat((needed ? 1 : 0) + (random.nextInt(12) == 0 ? random.nextInt(3) : 0));
    }

    private String spoiled(String text) {
        StringBuilder result = new StringBuilder(text);
        String signs = "  --;;0123456789ascdjznhx+\t\u0000\u007f";
        int changes = 1 + random.nextInt(3);
        for (int i = 0; i < changes; i++) {
            int at = random.nextInt(result.length() + 1);
            char sign = signs.charAt(random.nextInt(signs.length()));
            int way = random.nextInt(4);
            if (way == 0 || at == result.length()) {
                result.insert(at, sign);
            } else if (way == 1) {
                result.setCharAt(at, sign);
            } else if (way == 2) {
                result.deleteCharAt(at);
            } else {
                result.setLength(at);
            }
        }
        return result.toString();
    }

    /** The last call is kept for the hash of the whole state. */
    private void both(String name, int a, int b) {
        if (calls < MOST_CALLS - 1) {
            compare(name, a, b);
        }
    }

    private void compare(String name, int a, int b) {
        calls++;
        Script.check("seed " + seed + ", call " + calls + ": " + name + "(" + a + ", " + b + ")",
            real(name, a, b), model.call(name, a, b));
    }

    private long real(String name, int a, int b) {
        switch (name) {
            case "append": return meter.append(a);
            case "clearText": return meter.clearText();
            case "assemble": return meter.assemble();
            case "setCost": return meter.setCost(a, b);
            case "opcode": return meter.opcode(a);
            case "blocks": return meter.blocks();
            case "blockOf": return meter.blockOf(a);
            case "successors": return meter.successors(a);
            case "blockCost": return meter.blockCost(a);
            case "chainHead": return meter.chainHead(a);
            case "chainCost": return meter.chainCost(a);
            case "reachableBlocks": return meter.reachableBlocks();
            case "greatestCost": return meter.greatestCost();
            case "leastCost": return meter.leastCost();
            case "run": return meter.run(a, b);
            case "steps": return meter.steps();
            case "remaining": return meter.remaining();
            case "charges": return meter.charges();
            case "register": return meter.register(a);
            case "stoppedAt": return meter.stoppedAt();
            case "chargeRateBits": return meter.chargeRateBits();
            case "neededBudget": return meter.neededBudget();
            case "undo": return meter.undo();
            case "errorCount": return meter.errorCount(a);
            case "digest": return meter.digest();
            default: throw new IllegalArgumentException(name);
        }
    }
}
