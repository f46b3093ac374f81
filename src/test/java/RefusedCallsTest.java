import java.util.ArrayList;
import java.util.List;

/**
 * "A call that returns an error code changes nothing except that it increments the counter of that code": two objects
 * with the same past, of which one has made the refused call too, answer everything alike but for that counter.
 */
public final class RefusedCallsTest {
    private static final String LOOP = "s0 2;z0 4;a0 -1;j1;h;";
    private static final int[] CODES = {-2, -3, -4};

    private record Past(String name, List<String> calls, int size, int blocks) {
        Script object() {
            Script script = Script.of(name);
            for (String call : calls) {
                script.answer(call);
            }
            return script;
        }
    }

    public static void main(String[] args) {
        Past[] pasts = {empty(), rich(), fullProgram(), fullText(), nothingSaved(), interrupted()};
        for (Past past : pasts) {
            for (String call : outOfRange(past)) {
                refused(past, call, -2);
            }
            for (String call : quiet()) {
                unchanged(past, call);
            }
        }
        for (int value : new int[] {0, 59, 127}) {
            refused(fullText(), "append(" + value + ")", -3);
        }
        refused(empty(), "undo()", -4);
        refused(nothingSaved(), "undo()", -4);
        syntaxErrors();
        Script.report();
    }

    private static Past past(String name, int size, int blocks, String... parts) {
        List<String> calls = new ArrayList<>();
        for (String part : parts) {
            if (part.endsWith(")")) {
                calls.add(part);
            } else {
                part.chars().forEach(sign -> calls.add("append(" + sign + ")"));
            }
        }
        return new Past(name, calls, size, blocks);
    }

    private static Past empty() {
        return past("a new object", 0, 0);
    }

    private static Past rich() {
        return past("in the middle", 5, 4, "undo()", "opcode(0)", "h;h;", "assemble()", "clearText()", LOOP, "assemble()", "setCost(0, 4)",
            "setCost(7, 9)", "setCost(4, 2)", "setCost(5, 3)", "a3 7", "run(1, 19)");
    }

    private static Past fullProgram() {
        return past("a full program", 24, 24, "h;".repeat(24), "assemble()", "run(0, 0)");
    }

    private static Past fullText() {
        return past("a full text", 1, 1, "a0 1;", "assemble()", " ".repeat(145), "run(2, 30000)");
    }

    private static Past nothingSaved() {
        return past("a program, but nothing saved", 5, 4, LOOP, "assemble()", "setCost(0, 5)", "setCost(0, 6)", "setCost(1, 6)", "setCost(0, 7)",
            "setCost(0, 8)", "undo()", "undo()", "undo()", "undo()", "undo()", "run(0, 9)");
    }

    private static Past interrupted() {
        return past("interrupted", 2, 1, "a0 1;j0;", "assemble()", "run(1, 30000)", "clearText()");
    }

    /** Just outside and far outside of each range, one argument at a time and both. */
    private static List<String> outOfRange(Past past) {
        List<String> calls = new ArrayList<>();
        int[] far = {Integer.MIN_VALUE, -1, Integer.MAX_VALUE};
        for (int wrong : far) {
            calls.add("append(" + wrong + ")");
            calls.add("setCost(" + wrong + ", 5)");
            calls.add("setCost(0, " + wrong + ")");
            calls.add("run(" + wrong + ", 100)");
            calls.add("run(1, " + wrong + ")");
            calls.add("errorCount(" + wrong + ")");
            for (String name : new String[] {"opcode", "blockOf", "successors", "blockCost", "chainHead", "chainCost"}) {
                calls.add(name + "(" + wrong + ")");
            }
        }
        for (String name : new String[] {"opcode", "blockOf"}) {
            calls.add(name + "(" + past.size() + ")");
            calls.add(name + "(24)");
        }
        for (String name : new String[] {"successors", "blockCost", "chainHead", "chainCost"}) {
            calls.add(name + "(" + past.blocks() + ")");
            calls.add(name + "(24)");
        }
        calls.addAll(List.of("append(128)", "setCost(8, 1)", "setCost(7, 0)", "setCost(7, 10)", "setCost(8, 10)", "setCost(-1, 0)",
            "run(3, 0)", "run(3, 30001)", "run(0, 30001)", "run(2, 30001)", "run(-1, -1)", "errorCount(-5)", "errorCount(0)"));
        return calls;
    }

    /** Calls that answer, with or without a number, and change nothing at all. */
    private static List<String> quiet() {
        return List.of("register(-1)", "register(4)", "register(2147483647)", "register(-2147483648)", "register(0)", "register(3)", "blocks()",
            "reachableBlocks()", "greatestCost()", "leastCost()", "steps()", "remaining()", "charges()", "stoppedAt()", "chargeRateBits()",
            "neededBudget()", "errorCount(-2)", "errorCount(-3)", "errorCount(-4)", "digest()");
    }

    private static void refused(Past past, String call, int code) {
        Script after = past.object().due(call, code);
        Script before = past.object();
        for (int one : CODES) {
            String count = "errorCount(" + one + ")";
            after.due(count, before.answer(count) + (one == code ? 1 : 0));
        }
        Script.check(past.name() + ": the counter is in the hash after " + call, past.object().answer("digest()") == after.answer("digest()") ? 1 : 0, 0);
        alike(past, call);
    }

    private static void unchanged(Past past, String call) {
        Script after = past.object();
        after.answer(call);
        after.due("digest()", past.object().answer("digest()"));
        alike(past, call);
    }

    private static void syntaxErrors() {
        Past[] pasts = {
            past("a wrong text", 0, 0, "h;?"),
            past("a wrong text and a program", 5, 4, LOOP, "assemble()", "run(0, 3)", "clearText()", "s1 1;s2 2;j1;h;h;h;j25;"),
            past("a wrong text and five saved states", 1, 1, "h;", "assemble()", "assemble()", "setCost(7, 3)", "setCost(7, 4)", "setCost(7, 5)", "setCost(7, 6)", "h"),
            past("a wrong full text", 1, 1, "h;", "assemble()", "h;".repeat(74))};
        for (Past past : pasts) {
            long answer = past.object().answer("assemble()");
            Script.check(past.name() + ": assemble() is refused", answer <= -10 && answer >= -160 ? 1 : 0, 1);
            unchanged(past, "assemble()");
        }
    }

    /** All that can be seen of the state, now, after each undo, and of the text. */
    private static void alike(Past past, String call) {
        for (String way : new String[] {"", "undo()", "undo()undo()", "undo()undo()undo()undo()undo()", "assemble()", "append(59)assemble()", "setCost(7, 2)",
            "run(0, 30000)", "run(2, 7)", "clearText()append(104)append(59)assemble()"}) {
            Script after = past.object();
            after.answer(call);
            Script before = past.object();
            for (String step : way.split("(?<=\\))")) {
                if (!step.isEmpty()) {
                    after.due(step, before.answer(step));
                }
            }
            sameAnswers(past, before, after);
        }
    }

    private static void sameAnswers(Past past, Script before, Script after) {
        List<String> calls = new ArrayList<>(List.of("blocks()", "reachableBlocks()", "greatestCost()", "leastCost()", "steps()", "remaining()",
            "charges()", "register(0)", "register(1)", "register(2)", "register(3)", "stoppedAt()", "chargeRateBits()", "neededBudget()"));
        for (int index = 0; index <= past.size() && index < 6; index++) {
            for (String name : new String[] {"opcode", "blockOf", "successors", "blockCost", "chainHead", "chainCost"}) {
                calls.add(name + "(" + index + ")");
            }
        }
        calls.addAll(List.of("run(1, 12)", "remaining()", "register(0)", "register(3)", "clearText()", "setCost(0, 1)", "setCost(1, 1)", "setCost(4, 1)",
            "setCost(5, 1)", "setCost(7, 1)", "undo()", "undo()", "undo()", "undo()", "undo()", "undo()"));
        for (String one : calls) {
            after.due(one, before.answer(one));
        }
    }
}
