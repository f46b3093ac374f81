import java.math.BigInteger;

/** The words of the promises 16 to 26: runs, undo, the counters and the hash. */
final class RunPromiseSentences {
    private static final String LOOP = "s0 2;z0 4;a0 -1;j1;h;";
    private static final int[] NEW_COSTS = {1, 1, 1, 1, 1, 1, 1, 1};
    /** Every result of a run. */
    private static final String[] RESULTS = {"steps()", "remaining()", "charges()", "register(0)", "register(1)", "register(2)",
        "register(3)", "stoppedAt()", "chargeRateBits()"};

    private RunPromiseSentences() {
    }

    static void check() {
        run();
        results();
        register();
        stoppedAt();
        rate();
        neededBudget();
        undo();
        errorCount();
        digest();
        digestWraps();
        lastCall();
    }

    private static String quote(int promise, String words) {
        return Document.quote("Promise " + promise, words);
    }

    private static void run() {
        Script.of(quote(16, "Runs the program.")).program("s0 7;c1 0;").due("run(0, 9) = 0; register(0) = 7; register(1) = 7");
        Script.of(quote(16, "The result is kept as the latest run.")).program("s0 7;c1 0;").due("run(0, 9) = 0; run(0, 1) = 1; steps() = 1; register(1) = 0; remaining() = 0; stoppedAt() = 1");
        Script.of(quote(16, "- `mode`: metering mode, 0 to 2")).program("a0 1;a0 1;").due("run(-1, 5) = -2; run(0, 5) = 0; charges() = 2; run(1, 5) = 0; charges() = 1; run(2, 5) = 0; charges() = 1; run(3, 5) = -2; errorCount(-2) = 2");
        Script budget = Script.of(quote(16, "- `budget`: initial budget, 0 to 30000")).program("h;");
        for (int mode = 0; mode < 3; mode++) {
            String call = "run(" + mode + ", ";
            budget.due(call + "-1)", -2).due(call + "0)", 1).due("remaining() = 0").due(call + "1)", 0).due(call + "29999)", 0).due("remaining() = 29998")
                .due(call + "30000)", 0).due("remaining() = 29999").due(call + "30001)", -2).due("remaining() = 29999");
        }
        budget.due("errorCount(-2) = 6");
        Script.of(quote(16, "Returns the status;")).due("run(0, 0) = 0").program("j0;").due("run(0, 0) = 1; run(0, 2999) = 1; run(0, 3000) = 2").program("h;").due("run(0, 1) = 0");
        Script wrong = Script.of(quote(16, "OUT_OF_RANGE if an argument is out of range.")).program("a0 1;h;").due("run(0, 1) = 1");
        int[] far = {Integer.MIN_VALUE, -1, 30001, Integer.MAX_VALUE};
        for (int one : far) {
            wrong.due("run(" + one + ", 5)", -2).due("run(0, " + one + ")", -2).due("run(" + one + ", " + one + ")", -2);
        }
        wrong.due("errorCount(-2) = 12; steps() = 1; stoppedAt() = 1; register(0) = 1; charges() = 1; remaining() = 0; undo() = 0");
        Script.of("Promise 16, an empty program").due("run(0, 0) = 0; run(1, 30000) = 0; remaining() = 30000; run(2, 1) = 0; remaining() = 1; steps() = 0; charges() = 0; stoppedAt() = -1");
    }

    private static void results() {
        String steps = quote(17, "Returns the number of executed instructions of the latest run. Returns the number of steps.");
        Script.of(steps).due("steps() = 0").program(LOOP).due("steps() = 0; run(0, 0) = 1; steps() = 0; run(1, 1) = 1; steps() = 1; run(2, 8) = 1; steps() = 8; run(2, 9) = 0; steps() = 9");
        Script.of(steps).program("j0;").due("run(0, 2999) = 1; steps() = 2999; run(0, 3000) = 2; steps() = 3000; run(0, 30000) = 2; steps() = 3000");
        String remaining = quote(18, "Returns the remaining budget of the latest run. Returns the remaining budget.");
        Script.of(remaining).due("remaining() = 0; run(0, 30000) = 0; remaining() = 30000").program("h;").due("run(0, 0) = 1; remaining() = 0; run(0, 1) = 0; remaining() = 0; run(0, 2) = 0; remaining() = 1")
            .due("setCost(7, 9) = 1; run(0, 8) = 1; remaining() = 8; run(1, 9) = 0; remaining() = 0; run(2, 30000) = 0; remaining() = 29991");
        String charges = quote(19, "Returns the number of charges of the latest run. Returns the number of charges.");
        Script.of(charges).due("charges() = 0").program(LOOP).due("run(0, 100) = 0; charges() = 9; run(1, 100) = 0; charges() = 7; run(2, 100) = 0; charges() = 7; run(0, 0) = 1; charges() = 0; run(3, 9) = -2; charges() = 0");
        Script.of(charges).program("j0;").due("run(0, 30000) = 2; charges() = 3000; run(2, 30000) = 2; charges() = 3000");
    }

    private static void register() {
        Script.of(quote(20, "Returns the value of a register at the end of the latest run.")).program("s0 1;s1 -2;s2 3;s3 -4;s0 5;")
            .due("run(0, 4) = 1; register(0) = 1; run(0, 5) = 0; register(0) = 5; register(1) = -2; register(2) = 3; register(3) = -4; run(0, 0) = 1; register(3) = 0");
        String range = quote(20, "- `register`: 0 to 3");
        Script.of(range).program("s0 1;s1 2;s2 3;s3 4;").due("run(0, 9) = 0; register(-1) = 0; register(0) = 1; register(3) = 4; register(4) = 0");
        Script.of(quote(20, "Returns the value; 0 if there is no such register (no error is counted).")).program("s0 1;s1 2;s2 3;s3 4;").due("run(0, 9) = 0")
            .due("register(-1) = 0; register(4) = 0; register(2147483647) = 0; register(-2147483648) = 0; register(-4) = 0; errorCount(-2) = 0; errorCount(-3) = 0; errorCount(-4) = 0");
    }

    private static void stoppedAt() {
        Script.of(quote(21, "Returns the instruction at which the latest run stopped or was interrupted.")).program("a0 1;a0 1;j1;")
            .due("run(0, 0) = 1; stoppedAt() = 0; run(1, 1) = 1; stoppedAt() = 1; run(2, 2) = 1; stoppedAt() = 2; run(0, 30000) = 2; stoppedAt() = 2; run(0, 2998) = 1; stoppedAt() = 2");
        String words = quote(21, "Returns the number of the instruction that was not executed;");
        Script.of(words).program("a0 1;".repeat(23) + "a1 1;").due("run(0, 23) = 1; stoppedAt() = 23; register(0) = 23; register(1) = 0");
        Script.of(words).program("a0 1;j0;").due("run(0, 30000) = 2; stoppedAt() = 0; register(0) = 1500").program("j1;a0 1;j1;").due("run(0, 30000) = 2; stoppedAt() = 2; register(0) = 1500");
        Script.of(quote(21, "NONE if the status is 0.")).due("stoppedAt() = -1").program("h;").due("run(0, 0) = 1; stoppedAt() = 0; run(0, 1) = 0; stoppedAt() = -1; errorCount(-2) = 0");
    }

    private static void rate() {
        String words = quote(22, "Returns the charges per executed instruction of the latest run: the number of charges, converted to float,"
            + " divided by the number of steps, converted to float.");
        Script.of(words).program(LOOP).due("run(0, 100) = 0").due("chargeRateBits()", bits(9, 9)).due("run(1, 100) = 0").due("chargeRateBits()", bits(7, 9))
            .due("run(0, 3) = 1").due("chargeRateBits()", bits(3, 3)).due("run(1, 8) = 1").due("chargeRateBits()", bits(6, 8));
        String same = quote(22, "Returns the bits of the float as Float.floatToIntBits gives them;");
        for (int count = 1; count <= 24; count++) {
            Script.of(same + " 1 of " + count).program("a0 1;".repeat(count)).due("run(1, 24) = 0").due("chargeRateBits()", bits(1, count));
        }
        for (int budget = 1; budget <= 3000; budget += 7) {
            Script loop = Script.of(same + " budget " + budget).program("a0 1;a0 1;a0 1;a0 1;a0 1;a0 1;j0;");
            loop.answer("run(1, " + budget + ")");
            loop.due("steps()", budget).due("charges()", budget / 7 + budget % 7).due("chargeRateBits()", bits(budget / 7 + budget % 7, budget));
        }
        Script.of(same + " the least rate").program("a0 1;".repeat(23) + "j0;").due("run(1, 30000) = 2; steps() = 3000; charges() = 125").due("chargeRateBits()", bits(125, 3000));
        String none = quote(22, "the bits of 0.0f if there are no steps.");
        Script.of(none).due("chargeRateBits() = 0; run(0, 5) = 0; chargeRateBits() = 0").program("h;").due("run(0, 1) = 0; chargeRateBits() = 1065353216; run(1, 0) = 1; chargeRateBits() = 0");
    }

    private static int bits(int charges, int steps) {
        return Float.floatToIntBits((float) charges / (float) steps);
    }

    private static void neededBudget() {
        String words = quote(23, "Finds the least budget with which the program ends.");
        for (String program : new String[] {"h;", LOOP, "s0 9;a0 -1;z0 4;j1;h;", "j2;h;a0 1;z1 4;a0 2;", "a0 1;".repeat(24)}) {
            Script script = Script.of(words + " " + program).program(program).due("setCost(0, 7) = 1; setCost(4, 3) = 1");
            long needed = script.answer("neededBudget()");
            for (int mode = 0; mode < 3; mode++) {
                script.due("run(" + mode + ", " + (needed - 1) + ")", 1).due("run(" + mode + ", " + needed + ")", 0).due("remaining() = 0");
            }
        }
        Script stays = Script.of(quote(23, "The latest run stays as it is.")).program("a0 1;a1 2;a2 3;a3 4;h;").due("run(0, 4) = 1");
        resultsStay(stays, "neededBudget()", 5);
        resultsStay(stays.due("run(1, 9) = 0"), "neededBudget()", 5);
        resultsStay(stays.program("a3 2;j0;").due("run(2, 30000) = 2"), "neededBudget()", -1);
        String range = quote(23, "Returns the least budget, 0 to 30000, for which a run has status 0;");
        Script.of(range).due("neededBudget() = 0").program("h;").due("neededBudget() = 1; setCost(7, 9) = 1; neededBudget() = 9; undo() = 1; neededBudget() = 1; undo() = 0; neededBudget() = 0");
        String most = "s0 99;" + "a0 99;".repeat(9) + "s1 0;s1 0;s1 0;a0 5;a0 -1;z0 18;j14;h;s1 1;s1 2;";
        Script.of(range + " the dearest").program(most).due("neededBudget() = 3000; setCost(0, 9) = 1; setCost(1, 9) = 1; setCost(4, 9) = 1; setCost(5, 9) = 1; neededBudget() = 27000; run(0, 26999) = 1; run(0, 27000) = 0");
        String none = quote(23, "NONE if there is none.");
        Script.of(none).program("j0;").due("neededBudget() = -1; errorCount(-2) = 0; errorCount(-3) = 0; errorCount(-4) = 0");
        Script.of(none + " 3001 instructions").program(most + "h;").due("neededBudget() = -1; run(0, 30000) = 2");
    }

    /** The call answers so and leaves every result of the latest run as it was. */
    private static void resultsStay(Script script, String call, long answer) {
        long[] before = new long[RESULTS.length];
        for (int i = 0; i < RESULTS.length; i++) {
            before[i] = script.answer(RESULTS[i]);
        }
        script.due(call, answer);
        for (int i = 0; i < RESULTS.length; i++) {
            script.due(RESULTS[i], before[i]);
        }
    }

    private static void undo() {
        String words = quote(24, "Restores the most recently saved state and removes it from the saved states.");
        Script.of(words).program("h;").program("h;h;").due("setCost(7, 5) = 1; blockCost(1) = 5; undo() = 2; blockCost(1) = 1; undo() = 1; blocks() = 1; undo() = 0; blocks() = 0; undo() = -4");
        Script.of(words + " and a new one after it").due("setCost(0, 2) = 1; setCost(0, 3) = 2; undo() = 1; setCost(0, 4) = 2; undo() = 1; undo() = 0; setCost(0, 5) = 1");
        Script stays = Script.of(quote(24, "The latest run stays as it is.")).program("a0 1;h;").program("a0 3;a1 4;h;").due("run(0, 2) = 1");
        resultsStay(stays, "undo()", 1);
        resultsStay(stays, "undo()", 0);
        resultsStay(stays, "undo()", -4);
        Script.of(quote(24, "Returns the number of saved states that remain;")).times(6, "setCost(0, 1)").due("undo() = 4; undo() = 3; undo() = 2; undo() = 1; undo() = 0; assemble() = 0; undo() = 0");
        String none = quote(24, "NOTHING_SAVED if there is none.");
        Script.of(none).due("undo() = -4; undo() = -4; errorCount(-4) = 2; errorCount(-2) = 0; errorCount(-3) = 0");
        Script.of(none + " after the last").program("h;").due("setCost(7, 3) = 1; undo() = 1; undo() = 0; undo() = -4; errorCount(-4) = 1; blocks() = 0");
        Script.of(none + " what is there stays").program("h;h;").times(5, "setCost(7, 2)").times(5, "undo()").due("undo() = -4; blocks() = 2; blockCost(1) = 1; errorCount(-4) = 1");
    }

    private static void errorCount() {
        Script.of(quote(25, "Returns how often an error code has been returned.")).due("opcode(0) = -2; opcode(0) = -2; blockOf(0) = -2; undo() = -4; undo() = -4").times(151, "append(0)")
            .due("errorCount(-2) = 3; errorCount(-3) = 1; errorCount(-4) = 2; errorCount(-2) = 3; undo() = -4; errorCount(-4) = 3; append(0) = -3; errorCount(-3) = 2; run(3, 0) = -2; errorCount(-2) = 4");
        Script.of(quote(25, "- `code`: an error code, -4 to -2")).due("errorCount(-5) = -2; errorCount(-4) = 0; errorCount(-3) = 0; errorCount(-2) = 1; errorCount(-1) = -2; errorCount(-2) = 2");
        Script.of(quote(25, "Returns the counter of the code;")).due("errorCount(-2) = 0; errorCount(-3) = 0; errorCount(-4) = 0; undo() = -4; errorCount(-4) = 1; errorCount(-3) = 0; errorCount(-2) = 0");
        Script.of(quote(25, "OUT_OF_RANGE if code is out of range (this increments the counter of OUT_OF_RANGE)."))
            .due("errorCount(-5) = -2; errorCount(-2) = 1; errorCount(-1) = -2; errorCount(-2) = 2; errorCount(0) = -2; errorCount(2) = -2; errorCount(-2147483648) = -2; errorCount(2147483647) = -2; errorCount(-2) = 6; errorCount(-3) = 0; errorCount(-4) = 0");
    }

    /** A state in which all values of the hash that can differ do differ. */
    private static Script richState(String name) {
        return Script.of(name).due("undo() = -4; undo() = -4; undo() = -4").times(152, "append(32)").due("opcode(0) = -2; clearText() = 150")
            .due("setCost(0, 9) = 1; setCost(1, 8) = 1; setCost(2, 7) = 1; setCost(3, 6) = 1; setCost(4, 5) = 1; setCost(5, 4) = 1; setCost(6, 3) = 1; setCost(7, 2) = 1")
            .program("s1 -5;z0 3;h;a3 9;j6;j5;c2 1;n0 9;d0 2;").due("undo() = 4; undo() = 3; assemble() = 9");
    }

    private static void digest() {
        String words = quote(26, "Returns a hash of the state. Start with h = 2663 and, for each of the following values v, set h = 31 * h + v:"
            + " the counters of the codes -2, -3, -4; the length of the text; the costs of the opcodes 0 to 7; the number of instructions and their opcodes;"
            + " the number of blocks and, for each block, its successors, cost, chain head and chain cost; the reachable blocks; greatestCost(); leastCost();"
            + " the status, steps, remaining budget, charges, registers 0 to 3 and stoppedAt() of the latest run; the number of saved states.");
        int[] costs = {9, 8, 7, 6, 5, 4, 3, 1};
        Script.of(words + " new").due("digest()", digestOf(Script.of("new"), NEW_COSTS, 0, 0, 0, 0));
        for (int budget : new int[] {0, 8, 13, 25, 40, 41, 100}) {
            for (int mode = 0; mode < 3; mode++) {
                Script one = richState(words + " mode " + mode + ", budget " + budget);
                int status = (int) one.answer("run(" + mode + ", " + budget + ")");
                one.due("digest()", digestOf(one, costs, 39, 9, status, 4));
                one.due("digest()", digestOf(one, costs, 39, 9, status, 4));
            }
        }
        for (int saved = 1; saved <= 7; saved++) {
            Script one = Script.of(words + " saved states " + saved).program("j0;").times(saved - 1, "assemble()").due("run(2, 30000) = 2");
            one.due("digest()", digestOf(one, NEW_COSTS, 3, 1, 2, Math.min(saved, 5)));
        }
    }

    /** The hash as the document tells it, from what the other calls answer. */
    private static long digestOf(Script state, int[] costs, int length, int size, int status, int saved) {
        BigInteger hash = exactDigest(state, costs, length, size, status, saved);
        return hash.longValue();
    }

    private static BigInteger exactDigest(Script state, int[] costs, int length, int size, int status, int saved) {
        BigInteger hash = BigInteger.valueOf(2663);
        hash = mix(hash, state.answer("errorCount(-2)"), state.answer("errorCount(-3)"), state.answer("errorCount(-4)"), length);
        for (int cost : costs) {
            hash = mix(hash, cost);
        }
        hash = mix(hash, size);
        for (int index = 0; index < size; index++) {
            hash = mix(hash, state.answer("opcode(" + index + ")"));
        }
        long blocks = state.answer("blocks()");
        hash = mix(hash, blocks);
        for (int block = 0; block < blocks; block++) {
            String of = "(" + block + ")";
            hash = mix(hash, state.answer("successors" + of), state.answer("blockCost" + of), state.answer("chainHead" + of), state.answer("chainCost" + of));
        }
        hash = mix(hash, state.answer("reachableBlocks()"), state.answer("greatestCost()"), state.answer("leastCost()"));
        hash = mix(hash, status, state.answer("steps()"), state.answer("remaining()"), state.answer("charges()"));
        for (int register = 0; register < 4; register++) {
            hash = mix(hash, state.answer("register(" + register + ")"));
        }
        return mix(hash, state.answer("stoppedAt()"), saved);
    }

    private static BigInteger mix(BigInteger hash, long... values) {
        BigInteger mixed = hash;
        for (long value : values) {
            mixed = mixed.multiply(BigInteger.valueOf(31)).add(BigInteger.valueOf(value));
        }
        return mixed;
    }

    private static void digestWraps() {
        String words = quote(26, "Returns the hash, with the overflow of long arithmetic ignored.");
        BigInteger exact = exactDigest(Script.of("new"), NEW_COSTS, 0, 0, 0, 0);
        Script.check(words + " the exact value is no long", exact.bitLength() > 64 ? 1 : 0, 1);
        Script.of(words).due("digest()", exact.and(BigInteger.ONE.shiftLeft(64).subtract(BigInteger.ONE)).longValue());
    }

    /** "An object is used for at most 512 calls": the 512th still answers as the first. */
    private static void lastCall() {
        Script.of("512 calls, errors").times(511, "opcode(0)").due("errorCount(-2) = 511");
        Script.of("512 calls, saved states").times(510, "assemble()").due("undo() = 4; undo() = 3");
    }
}
