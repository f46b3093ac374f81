/** Promises 16 to 26: runs, their results, undo, the counters and the hash. */
public final class RunPromisesTest {
    private static final String LOOP = "s0 2;z0 4;a0 -1;j1;h;";
    private static final String CHAIN = "j2;h;a0 1;z1 4;a0 2;";

    public static void main(String[] args) {
        opcodes();
        arithmeticWraps();
        arguments();
        ends();
        modes();
        stops();
        interruptions();
        wholeBlockBeforeInterruption();
        registers();
        rates();
        neededBudget();
        undo();
        undoLimit();
        errorCount();
        digest();
        Script.report();
    }

    private static void opcodes() {
        Script.of("promise 16: arithmetic").program("s0 5;a0 -7;c1 0;s2 99;d2 1;d3 2;h;s0 1;")
            .due("run(0, 100) = 0; steps() = 7; remaining() = 93; register(0) = -2; register(1) = -2")
            .due("register(2) = 101; register(3) = -101; stoppedAt() = -1");
        Script.of("promise 16: a register with itself").program("s1 7;c1 1;d1 1;").due("run(0, 3) = 0; register(1) = 0");
        Script.of("promise 16: jzero").program("s0 1;z0 4;z1 4;h;s2 9;").due("run(0, 9) = 0; steps() = 4; register(2) = 9");
        Script.of("promise 16: jneg").program("n0 3;s0 -1;n0 4;h;s2 9;").due("run(0, 9) = 0; steps() = 4; register(2) = 9");
        Script.of("promise 16: jneg not at 0 or above").program("s0 1;n0 3;h;s2 9;").due("run(0, 9) = 0; steps() = 3; register(2) = 0");
        Script.of("promise 16: jzero not below 0").program("s0 -1;z0 3;h;s2 9;").due("run(0, 9) = 0; steps() = 3; register(2) = 0");
    }

    private static void arithmeticWraps() {
        // Each round doubles register 0 (r1 = 0 - r0; r0 = r0 - r1): 31 rounds leave the lowest int.
        String doubling = "s0 1;s2 31;z2 8;s1 0;d1 0;d0 1;a2 -1;j2;s3 1;";
        Script.of("promise 16: wrap").program(doubling + "d1 1;d1 3;d1 0;a0 -1;")
            .due("run(2, 30000) = 0; register(0) = 2147483647; register(1) = 2147483647; register(2) = 0; register(3) = 1");
        Script.of("promise 16: wrap of a difference").program(doubling + "d3 0;")
            .due("run(1, 30000) = 0; register(0) = -2147483648; register(3) = -2147483647");
        Script.of("promise 16: a register at 0 after a wrap").program("s0 1;s2 32;z2 8;s1 0;d1 0;d0 1;a2 -1;j2;")
            .due("run(0, 30000) = 0; register(0) = 0");
    }

    private static void arguments() {
        Script.of("promise 16: arguments").program("a0 1;").due("run(0, 1) = 0; run(3, 0) = -2; run(-1, 0) = -2")
            .due("run(0, -1) = -2; run(0, 30001) = -2; run(2147483647, 5) = -2; run(1, -2147483648) = -2; run(3, -1) = -2")
            .due("errorCount(-2) = 7; steps() = 1; charges() = 1; register(0) = 1; remaining() = 0")
            .due("run(0, 30000) = 0; remaining() = 29999; run(2, 0) = 1; run(1, 30000) = 0; undo() = 0");
    }

    private static void ends() {
        Script.of("promise 16: a halt at the end").program("h;").due("run(0, 1) = 0; steps() = 1; run(0, 0) = 1; stoppedAt() = 0");
        Script.of("promise 16: behind the last").program("a0 1;").due("run(1, 1) = 0; steps() = 1; stoppedAt() = -1");
        Script.of("promise 16: a jump out").program("j1;").due("run(2, 5) = 0; steps() = 1; remaining() = 4");
        Script.of("promise 16: a jump far out").program("j24;a0 1;").due("run(2, 5) = 0; steps() = 1; register(0) = 0");
        Script.of("promise 16: a halt is the end with 24 instructions").program("h;".repeat(24)).due("run(0, 5) = 0; steps() = 1");
        Script.of("promise 16: all 24").program("a1 2;".repeat(24)).due("run(2, 24) = 0; steps() = 24; charges() = 1; register(1) = 48");
        Script.of("promise 16: empty").due("run(2, 17) = 0; remaining() = 17; steps() = 0; charges() = 0; stoppedAt() = -1");
    }

    private static void modes() {
        Script.of("promises 17 to 19: a loop").program(LOOP)
            .due("run(0, 100) = 0; steps() = 9; remaining() = 91; charges() = 9")
            .due("run(1, 100) = 0; steps() = 9; remaining() = 91; charges() = 7")
            .due("run(2, 100) = 0; steps() = 9; remaining() = 91; charges() = 7");
        Script.of("promises 17 to 19: a chain").program(CHAIN)
            .due("run(0, 4) = 0; steps() = 4; remaining() = 0; charges() = 4; register(0) = 3")
            .due("run(1, 4) = 0; steps() = 4; remaining() = 0; charges() = 3; register(0) = 3")
            .due("run(2, 4) = 0; steps() = 4; remaining() = 0; charges() = 1; register(0) = 3");
        Script.of("promises 17 to 19: other costs").program(CHAIN).due("setCost(0, 9) = 1; setCost(4, 2) = 1")
            .due("run(2, 21) = 0; charges() = 1; remaining() = 0; run(1, 22) = 0; charges() = 3; remaining() = 1");
        Script.of("promise 19: a loop over a chain is charged anew").program("s0 3;a0 -1;j4;h;z0 3;j1;")
            .due("blocks() = 5; chainHead(3) = 1; chainCost(1) = 3")
            .due("run(2, 100) = 0; steps() = 13; charges() = 7; remaining() = 87; run(1, 100) = 0; charges() = 10");
    }

    private static void stops() {
        Script.of("promise 21: one point in all modes").program(CHAIN)
            .due("run(0, 3) = 1; stoppedAt() = 4; steps() = 3; charges() = 3; remaining() = 0; register(0) = 1")
            .due("run(1, 3) = 1; stoppedAt() = 4; steps() = 3; charges() = 2; remaining() = 0; register(0) = 1")
            .due("run(2, 3) = 1; stoppedAt() = 4; steps() = 3; charges() = 3; remaining() = 0; register(0) = 1")
            .due("run(1, 0) = 1; stoppedAt() = 0; steps() = 0; charges() = 0; run(1, 2) = 1; stoppedAt() = 3; charges() = 2")
            .due("run(2, 100) = 0; stoppedAt() = -1");
        Script.of("promise 18: what is left when it stops").program("a0 1;a0 1;a1 1;").due("setCost(0, 7) = 1")
            .due("run(0, 20) = 1; remaining() = 6; stoppedAt() = 2; run(1, 20) = 1; remaining() = 6; charges() = 2")
            .due("run(2, 20) = 1; remaining() = 6; stoppedAt() = 2; run(2, 21) = 0; remaining() = 0; charges() = 1");
    }

    private static void interruptions() {
        Script.of("promise 16: endless").program("a0 1;j0;")
            .due("run(0, 30000) = 2; steps() = 3000; remaining() = 27000; stoppedAt() = 0")
            .due("run(0, 3000) = 2; remaining() = 0; stoppedAt() = 0; run(1, 3000) = 2; charges() = 1500; remaining() = 0")
            .due("run(0, 2999) = 1; stoppedAt() = 1; steps() = 2999; register(0) = 1500");
        // 14 instructions make register 0 995; the loop takes 3 * 995 - 1 instructions.
        Script.of("promise 16: an end after 3000").program("s0 99;a0 99;a0 99;a0 99;a0 99;a0 99;a0 99;a0 99;a0 99;a0 99;"
                + "s1 0;s1 0;s1 0;a0 5;a0 -1;z0 18;j14;h;")
            .due("run(0, 30000) = 0; steps() = 2998");
        Script.of("promise 16: exactly 3000").program("s0 99;a0 99;a0 99;a0 99;a0 99;a0 99;a0 99;a0 99;a0 99;a0 99;"
                + "s1 0;s1 0;s1 0;a0 5;a0 -1;z0 18;j14;h;s1 1;s1 2;")
            .due("run(0, 30000) = 0; steps() = 3000; stoppedAt() = -1; register(1) = 2; neededBudget() = 3000")
            .due("run(1, 30000) = 0; steps() = 3000; run(2, 3000) = 0; steps() = 3000; run(2, 2999) = 1; stoppedAt() = 19");
        Script.of("promise 16: one more than 3000").program("s0 99;a0 99;a0 99;a0 99;a0 99;a0 99;a0 99;a0 99;a0 99;a0 99;"
                + "s1 0;s1 0;s1 0;a0 5;a0 -1;z0 18;j14;h;s1 1;s1 2;h;")
            .due("run(0, 30000) = 2; steps() = 3000; stoppedAt() = 20; register(1) = 2; neededBudget() = -1")
            .due("run(0, 3000) = 2; remaining() = 0; run(0, 2999) = 1; stoppedAt() = 19");
    }

    private static void wholeBlockBeforeInterruption() {
        // 3000 = 1 + 3 * 999 + 2: the last block is charged as a whole though its third instruction never runs.
        Script.of("promise 18: a charged block that is interrupted").program("s0 1;a0 1;a1 1;j1;").due("setCost(4, 9) = 1")
            .due("run(0, 30000) = 2; steps() = 3000; stoppedAt() = 3; remaining() = 19008")
            .due("run(1, 30000) = 2; steps() = 3000; stoppedAt() = 3; remaining() = 18999; charges() = 1001")
            .due("run(2, 30000) = 2; steps() = 3000; stoppedAt() = 3; remaining() = 18999; charges() = 1001")
            .due("run(1, 11000) = 2; remaining() = 8; charges() = 1002; stoppedAt() = 3");
    }

    private static void registers() {
        Script.of("promise 20").program("s0 1;s1 2;s2 3;s3 4;").due("run(0, 4) = 0")
            .due("register(0) = 1; register(1) = 2; register(2) = 3; register(3) = 4; register(4) = 0; register(-1) = 0")
            .due("register(2147483647) = 0; register(-2147483648) = 0; errorCount(-2) = 0")
            .due("run(0, 2) = 1; register(0) = 1; register(1) = 2; register(2) = 0; register(3) = 0");
    }

    private static void rates() {
        Script.of("promise 22: none").due("chargeRateBits() = 0; run(0, 5) = 0; chargeRateBits() = 0");
        Script.of("promise 22: stopped at once").program("h;").due("run(0, 1) = 0; chargeRateBits() = 1065353216; run(0, 0) = 1; chargeRateBits() = 0");
        for (int count = 1; count <= 24; count++) {
            Script.of("promise 22: 1 of " + count).program("a0 1;".repeat(count)).due("run(1, 24) = 0")
                .due("chargeRateBits()", Float.floatToIntBits(1.0f / count));
        }
        for (int budget = 0; budget < 3200; budget++) {
            Script loop = Script.of("promise 22, budget " + budget).program("a0 1;a0 1;a0 1;a0 1;j0;");
            loop.answer("run(1, " + budget + ")");
            float steps = loop.answer("steps()");
            float charges = loop.answer("charges()");
            loop.due("chargeRateBits()", steps == 0 ? 0 : Float.floatToIntBits(charges / steps));
        }
    }

    private static void neededBudget() {
        Script.of("promise 23").program(LOOP).due("run(0, 3) = 1; neededBudget() = 9; run(1, 8) = 1; run(1, 9) = 0")
            .due("setCost(4, 9) = 1; neededBudget() = 25; run(2, 24) = 1; run(2, 25) = 0; run(0, 0) = 1; neededBudget() = 25")
            .due("steps() = 0; remaining() = 0; charges() = 0; register(0) = 0; stoppedAt() = 0; undo() = 1");
        Script.of("promise 23: empty").due("neededBudget() = 0");
        Script.of("promise 23: endless").program("j0;").due("neededBudget() = -1; errorCount(-2) = 0");
        Script.of("promise 23: an end behind 3000").program("s0 99;a0 99;a0 99;a0 99;a0 99;a0 99;a0 99;a0 99;a0 99;a0 99;"
                + "a0 9;a0 -1;z0 14;j11;h;")
            .due("run(0, 30000) = 2; neededBudget() = -1");
        Script.of("promise 23: 27000").program("s0 99;a0 99;a0 99;a0 99;a0 99;a0 99;a0 99;a0 99;a0 99;a0 99;"
                + "s1 0;s1 0;s1 0;a0 5;a0 -1;z0 18;j14;h;s1 1;s1 2;")
            .due("setCost(0, 9) = 1; setCost(1, 9) = 1; setCost(4, 9) = 1; setCost(5, 9) = 1; neededBudget() = 27000")
            .due("run(0, 26999) = 1; run(0, 27000) = 0; run(2, 26999) = 1; run(1, 27000) = 0; remaining() = 0");
    }

    private static void undo() {
        Script.of("promise 24").program("h;").due("run(0, 9) = 0; setCost(7, 5) = 1; blockCost(0) = 5; undo() = 1")
            .due("blockCost(0) = 1; undo() = 0; blocks() = 0; undo() = -4; undo() = -4; errorCount(-4) = 2")
            .due("steps() = 1; remaining() = 8; clearText() = 2; setCost(7, 2) = 1; undo() = 0");
        Script.of("promise 24: the whole program comes back").program(CHAIN).program(LOOP)
            .due("neededBudget() = 9; undo() = 1; blocks() = 4; opcode(0) = 4; blockOf(4) = 3; successors(0) = 4")
            .due("chainHead(3) = 0; chainCost(3) = 4; reachableBlocks() = 13; greatestCost() = 4; leastCost() = 4")
            .due("run(2, 9) = 0; register(0) = 3; charges() = 1; neededBudget() = 4");
        Script.of("promise 24: a call that changes nothing is saved").due("assemble() = 0; setCost(0, 1) = 1; undo() = 1; undo() = 0");
        Script.of("promise 24: refused calls save nothing").text("x").due("assemble() = -10; setCost(0, 0) = -2; run(0, 0) = 0; undo() = -4");
        Script.of("promise 24: undo is not undoable").due("setCost(0, 2) = 1; setCost(0, 3) = 2; undo() = 1; undo() = 0; undo() = -4; setCost(0, 9) = 1");
    }

    private static void undoLimit() {
        Script.of("promise 24: five").due("setCost(0, 2) = 1; setCost(0, 3) = 2; setCost(0, 4) = 3; setCost(0, 5) = 4")
            .due("setCost(0, 6) = 5; setCost(0, 7) = 6; setCost(0, 8) = 7; undo() = 4; undo() = 3; undo() = 2")
            .due("setCost(0, 9) = 5; undo() = 2; undo() = 1; undo() = 0; undo() = -4; setCost(0, 1) = 3");
        Script.of("promise 24: round and round").times(99, "setCost(1, 4)").due("setCost(1, 5) = 4; undo() = 4; setCost(1, 6) = 4")
            .due("undo() = 4; undo() = 3; undo() = 2; undo() = 1; undo() = 0; undo() = -4; setCost(1, 7) = 4");
    }

    private static void errorCount() {
        Script.of("promise 25").due("errorCount(-2) = 0; errorCount(-3) = 0; errorCount(-4) = 0; errorCount(-1) = -2")
            .due("errorCount(-2) = 1; errorCount(-5) = -2; errorCount(0) = -2; errorCount(2147483647) = -2")
            .due("errorCount(-2147483648) = -2; errorCount(-2) = 5; errorCount(-2) = 5; undo() = -4; errorCount(-4) = 1");
        Script.of("promise 25: NONE is no error").program("j0;")
            .due("greatestCost() = -1; leastCost() = -1; neededBudget() = -1; stoppedAt() = -1; errorCount(-2) = 0")
            .due("errorCount(-3) = 0; errorCount(-4) = 0");
    }

    private static void digest() {
        long fresh = hash(0, 0, 0, 0, 1, 1, 1, 1, 1, 1, 1, 1, 0, 0, 0, 0, 0, 0, 0, 0, 0, 0, 0, 0, 0, -1, 0);
        Script.of("promise 26: new").due("digest()", fresh).due("digest()", fresh);
        Script.of("promise 26: counters").due("opcode(0) = -2; undo() = -4; undo() = -4").times(153, "append(0)")
            .due("digest()", hash(1, 3, 2, 150, 1, 1, 1, 1, 1, 1, 1, 1, 0, 0, 0, 0, 0, 0, 0, 0, 0, 0, 0, 0, 0, -1, 0));
        Script.of("promise 26: a run").program("s1 -5;z0 3;h;a3 9;").due("setCost(5, 3) = 1; run(1, 5) = 0")
            .due("digest()", hash(0, 0, 0, 18, 1, 1, 1, 1, 1, 3, 1, 1, 4, 1, 5, 7, 0,
                3, 6, 4, 0, 4, 0, 1, 1, 1, 0, 1, 2, 1, 7, 5, 5, 0, 3, 0, 2, 0, -5, 0, 9, -1, 2))
            .due("run(0, 2) = 1")
            .due("digest()", hash(0, 0, 0, 18, 1, 1, 1, 1, 1, 3, 1, 1, 4, 1, 5, 7, 0,
                3, 6, 4, 0, 4, 0, 1, 1, 1, 0, 1, 2, 1, 7, 5, 5, 1, 1, 1, 1, 0, -5, 0, 0, 1, 2));
    }

    private static long hash(int... values) {
        long hash = 2663;
        for (int value : values) {
            hash = 31 * hash + value;
        }
        return hash;
    }
}
