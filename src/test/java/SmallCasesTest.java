import java.util.ArrayList;
import java.util.List;

/** Every short text and every small program, the class beside the model. */
public final class SmallCasesTest {
    private static final int[] COSTS = {2, 3, 1, 1, 4, 1, 2, 5};
    private static final int[] BUDGETS = {0, 3, 5, 7, 9, 12, 14, 20, 40};

    private final String text;
    private final BudgetMeter meter = new BudgetMeter();
    private final Model model = new Model();

    private SmallCasesTest(String text) {
        this.text = text;
        for (char sign : text.toCharArray()) {
            meter.append(sign);
            model.call("append", sign, 0);
        }
        due("assemble()", meter.assemble(), model.call("assemble", 0, 0));
    }

    public static void main(String[] args) {
        texts("", "acjz h034;-", 4);
        for (String start : new String[] {"a", "s1", "c", "d2", "z", "n0", "j", "a0 ", "z0 ", "h;", "a1 -", "z03", "c3 ", "j2", "j02 ", "a00 1"}) {
            texts(start, "0239 -;ah", 3);
        }
        texts("h;".repeat(23), "h; a", 4);
        for (int size = 1; size <= 3; size++) {
            programs("", instructions(size), size);
        }
        Script.report();
    }

    /** The text itself, and with each sign behind it, and so on. */
    private static void texts(String text, String signs, int more) {
        new SmallCasesTest(text).due("digest()");
        if (more > 0) {
            for (char sign : signs.toCharArray()) {
                texts(text + sign, signs, more - 1);
            }
        }
    }

    private static List<String> instructions(int size) {
        List<String> all = new ArrayList<>(List.of("a0 -1;", "h;"));
        for (int target = 0; target <= size; target++) {
            all.addAll(List.of("j" + target + ";", "z0 " + target + ";", "n0 " + target + ";"));
        }
        return all;
    }

    private static void programs(String text, List<String> instructions, int more) {
        if (more == 0) {
            new SmallCasesTest(text).runs();
            return;
        }
        for (String instruction : instructions) {
            programs(text + instruction, instructions, more - 1);
        }
    }

    private void runs() {
        for (int code = 0; code < COSTS.length; code++) {
            due("setCost", meter.setCost(code, COSTS[code]), model.call("setCost", code, COSTS[code]));
        }
        for (int budget : BUDGETS) {
            for (int mode = 0; mode < 3; mode++) {
                String run = "run(" + mode + ", " + budget + ")";
                due(run, meter.run(mode, budget), model.call("run", mode, budget));
                due("digest() behind " + run);
            }
        }
        due("neededBudget()", meter.neededBudget(), model.call("neededBudget", 0, 0));
    }

    private void due(String call) {
        due(call, meter.digest(), model.call("digest", 0, 0));
    }

    private void due(String call, long got, long want) {
        Script.check("[" + text + "] " + call, got, want);
    }
}
