import java.util.ArrayList;
import java.util.List;
import java.util.Map;

/** The document's first words, on what the class is, and its public face. */
final class FaceSentences {
    private static final String LOOP = "s0 2;z0 4;a0 -1;j1;h;";

    private FaceSentences() {
    }

    static void check() {
        metering();
        sameStoppingPoint();
        analysisAndAssembler();
        calls();
        aPromiseEach();
    }

    private static String quote(String words) {
        return Document.quote(Document.WHAT_IT_IS, words);
    }

    private static void metering() {
        String budget = quote("A metering interpreter for a small register machine: a program runs with a budget, every instruction has a cost,");
        Script every = Script.of(budget).program("a0 1;s0 1;c0 1;d0 1;j5;z1 6;n1 7;h;");
        int sum = 0;
        for (int code = 0; code < 8; code++) {
            every.due("setCost(" + code + ", " + (9 - code) + ")", 1);
            sum += 9 - code;
        }
        for (int mode = 0; mode < 3; mode++) {
            every.due("run(" + mode + ", " + sum + ")", 0).due("steps() = 8; remaining() = 0")
                .due("run(" + mode + ", " + (sum - 1) + ")", 1).due("steps() = 7; stoppedAt() = 7");
        }
        String charged = quote("and the cost can be charged per instruction, per basic block or per chain of basic blocks,");
        Script.of(charged).program("a0 1;a0 1;j4;h;a0 1;a0 1;")
            .due("run(0, 9) = 0; charges() = 5; run(1, 9) = 0; charges() = 2; run(2, 9) = 0; charges() = 1; remaining() = 4");
    }

    private static void sameStoppingPoint() {
        String words = quote("always with the same stopping point;");
        String[] programs = {LOOP, "j2;h;a0 1;z1 4;a0 2;", "s0 3;a0 -1;j4;h;z0 3;j1;", "a0 1;a0 1;j3;a0 1;a0 1;"};
        String[] results = {"steps()", "stoppedAt()", "remaining()", "register(0)", "register(1)"};
        for (String program : programs) {
            for (int budget = 0; budget <= 60; budget++) {
                Script first = costly(words, program);
                long status = first.answer("run(0, " + budget + ")");
                for (int mode = 1; mode < 3; mode++) {
                    Script other = costly(words, program).due("run(" + mode + ", " + budget + ")", status);
                    for (String result : results) {
                        other.due(result, first.answer(result));
                    }
                }
            }
        }
    }

    private static Script costly(String words, String program) {
        return Script.of(words + " " + program).program(program)
            .times(1, "setCost(0, 4)").times(1, "setCost(4, 3)").times(1, "setCost(5, 2)");
    }

    private static void analysisAndAssembler() {
        String words = quote("with a control-flow analysis of the program and an assembler.");
        Script.of(words).text(LOOP).due("blocks() = 0; assemble() = 5; opcode(1) = 5; blocks() = 4; blockOf(3) = 2; successors(1) = 12; blockCost(2) = 2")
            .due("chainHead(2) = 2; chainCost(2) = 2; reachableBlocks() = 15; greatestCost() = -1; leastCost() = 3");
    }

    /** Each kind of call as the last one of the 512; what comes later is free, so nothing looks at it. */
    private static void calls() {
        String words = quote("An object is used for at most 512 calls after it has been made; what later calls answer is free.");
        String[] last = {"append(32) = 22", "clearText() = 21", "assemble() = 5", "setCost(7, 2) = 1", "opcode(4) = 7", "blocks() = 4", "blockOf(4) = 3",
            "successors(1) = 12", "blockCost(2) = 2", "chainHead(3) = 3", "chainCost(3) = 1", "reachableBlocks() = 15", "greatestCost() = -1",
            "leastCost() = 3", "run(1, 5) = 1", "steps() = 9", "remaining() = 91", "charges() = 7", "register(0) = 0", "stoppedAt() = -1",
            "chargeRateBits() = " + Float.floatToIntBits(7f / 9f), "neededBudget() = 9", "undo() = 0", "errorCount(-2) = 487"};
        for (String row : last) {
            Script.of(words + " the last: " + row).program(LOOP).times(1, "run(1, 100)").times(487, "append(128)").due(row);
        }
        Script.of(words + " 512 refused ones").times(511, "undo()").due("errorCount(-4) = 511");
        Script.of(words + " 512 saved ones").times(510, "setCost(0, 9)").due("setCost(0, 1) = 9; undo() = 4");
        Script.of(words + " the longest runs").program("a0 1;j0;").times(500, "run(0, 30000)").due("register(0) = 1500");
    }

    private static void aPromiseEach() {
        List<String> signatures = new ArrayList<>();
        int number = 0;
        for (Map.Entry<String, String> promise : Document.signatures().entrySet()) {
            number++;
            String signature = promise.getValue();
            String name = signature.startsWith("BudgetMeter(") ? "A new object" : signature.replaceAll("^\\w+ |\\(.*", "");
            boolean ownName = promise.getKey().equals(number + ": " + name);
            Script.check("Promise " + promise.getKey() + " is on " + signature, ownName ? 1 : 0, 1);
            signatures.add(signature);
        }
        Script.check("a promise each: " + signatures + " beside " + Document.face(), signatures.equals(Document.face()) ? 1 : 0, 1);
        Script.check("the promises", number, 26);
    }
}
