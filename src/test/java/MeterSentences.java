/** The document's words on the metering modes, the status and the result of a run. */
final class MeterSentences {
    /** 14 instructions make register 0 995, and the loop takes 3 * 995 - 1 instructions: 2998 before number 18. */
    private static final String LONG = "s0 99;" + "a0 99;".repeat(9) + "s1 0;s1 0;s1 0;a0 5;a0 -1;z0 18;j14;h;";

    private MeterSentences() {
    }

    static void check() {
        perInstruction();
        perBlock();
        perChain();
        enteredChain();
        status();
        interrupted();
        kept();
    }

    private static String quote(String words) {
        return Document.quote(Document.DESCRIPTION, words);
    }

    private static void perInstruction() {
        String less = quote("Mode 0 (per instruction): before each instruction, if the budget is less than its cost, the run stops;");
        Script.of(less).program("a0 1;").due("setCost(0, 9) = 1; run(0, 8) = 1; stoppedAt() = 0; remaining() = 8; charges() = 0; steps() = 0")
            .due("register(0) = 0; run(0, 9) = 0; remaining() = 0; stoppedAt() = -1");
        Script.of(less).program("a0 1;s1 1;h;").due("setCost(1, 5) = 1; run(0, 5) = 1; stoppedAt() = 1; remaining() = 4; steps() = 1")
            .due("run(0, 6) = 1; stoppedAt() = 2; remaining() = 0; run(0, 7) = 0; remaining() = 0");
        String loses = quote("otherwise the budget loses the cost, which is one charge.");
        Script.of(loses).program("a0 1;a0 1;h;").due("setCost(0, 3) = 1; setCost(7, 2) = 1")
            .due("run(0, 3) = 1; remaining() = 0; charges() = 1; run(0, 7) = 1; remaining() = 1; charges() = 2")
            .due("run(0, 8) = 0; remaining() = 0; charges() = 3; run(0, 30000) = 0; remaining() = 29992; charges() = 3");
    }

    private static void perBlock() {
        String whole = quote("Mode 1 (per block): when the run enters a block, if the budget is at least the cost of the block,"
            + " the budget loses that cost, which is one charge, and the instructions of the block run without further charges;");
        Script.of(whole).program("a0 1;a0 1;h;").due("setCost(0, 3) = 1; setCost(7, 2) = 1; blockCost(0) = 8")
            .due("run(1, 8) = 0; remaining() = 0; charges() = 1; steps() = 3; run(1, 9) = 0; remaining() = 1; charges() = 1");
        Script.of(whole + ", each time").program("s0 3;a0 -1;z0 4;j1;h;")
            .due("blocks() = 4; run(1, 100) = 0; steps() = 10; charges() = 7; remaining() = 90");
        Script.of(whole + ", a block that goes to itself").program("a0 -9;n0 3;j0;a0 1;a1 1;n0 3;")
            .due("run(1, 100) = 0; steps() = 29; charges() = 10; register(1) = 9; remaining() = 71");
        Script.of(whole + ", nothing is given back").program("s0 1;a0 1;a1 1;j1;").due("setCost(4, 9) = 1")
            .due("run(1, 11000) = 2; steps() = 3000; stoppedAt() = 3; remaining() = 8; charges() = 1002")
            .due("run(1, 11001) = 2; steps() = 3000; stoppedAt() = 3; remaining() = 0; charges() = 1001")
            .due("run(1, 11003) = 2; steps() = 3000; stoppedAt() = 3; remaining() = 2; charges() = 1001");
        String single = quote("otherwise the instructions of the block are charged as in mode 0.");
        Script.of(single).program("a0 1;a0 1;h;").due("setCost(0, 3) = 1; setCost(7, 2) = 1")
            .due("run(1, 7) = 1; remaining() = 1; charges() = 2; stoppedAt() = 2; steps() = 2; register(0) = 2")
            .due("run(1, 2) = 1; remaining() = 2; charges() = 0; stoppedAt() = 0; run(1, 0) = 1; charges() = 0");
        Script.of(single + ", a later block").program("a0 1;a0 1;j3;a0 1;a0 1;")
            .due("run(1, 4) = 1; charges() = 2; stoppedAt() = 4; remaining() = 0; run(1, 5) = 0; charges() = 2")
            .due("run(1, 3) = 1; charges() = 1; stoppedAt() = 3; run(1, 2) = 1; charges() = 2; stoppedAt() = 2");
    }

    private static void perChain() {
        String words = quote("Mode 2 (per chain): the same with chains;");
        Script.of(words).program("j2;h;a0 1;z1 4;a0 2;").due("setCost(0, 3) = 1; chainCost(0) = 8")
            .due("run(2, 8) = 0; charges() = 1; remaining() = 0; steps() = 4; run(2, 9) = 0; charges() = 1; remaining() = 1")
            .due("run(2, 7) = 1; charges() = 3; remaining() = 2; stoppedAt() = 4; steps() = 3; register(0) = 1")
            .due("run(2, 1) = 1; charges() = 1; remaining() = 0; stoppedAt() = 2; run(2, 0) = 1; charges() = 0; stoppedAt() = 0");
        Script.of(words + ", a chain of one block").program("z0 2;h;a0 1;a0 1;h;")
            .due("run(2, 4) = 0; charges() = 2; remaining() = 0; run(2, 3) = 1; charges() = 3; stoppedAt() = 4");
        Script.of(words + ", nothing is given back").program("j2;h;a0 1;a1 1;j5;j2;").due("setCost(4, 9) = 1; chainCost(2) = 20")
            .due("run(2, 30000) = 2; steps() = 3000; stoppedAt() = 5; charges() = 751; remaining() = 14991")
            .due("run(0, 30000) = 2; steps() = 3000; stoppedAt() = 5; charges() = 3000; remaining() = 15000");
    }

    private static void enteredChain() {
        String words = quote("a chain is entered when its first block is entered.");
        Script.of(words).program("s0 3;a0 -1;j4;h;z0 3;j1;").due("chainHead(3) = 1; chainCost(1) = 3")
            .due("run(2, 100) = 0; steps() = 13; charges() = 7; remaining() = 87; run(1, 100) = 0; charges() = 10; remaining() = 87");
        Script.of(words + ", not paid at its first block, not again at the second").program("a0 1;a0 1;j4;h;a1 1;")
            .due("chainHead(2) = 0; run(2, 3) = 1; charges() = 3; stoppedAt() = 4; run(2, 4) = 0; charges() = 1; remaining() = 0")
            .due("run(1, 3) = 1; charges() = 1; stoppedAt() = 4; run(1, 4) = 0; charges() = 2");
        Script.of(words + ", the second block could be paid as a whole").program("a0 1;j3;h;a1 1;a1 1;h;").due("setCost(4, 9) = 1")
            .due("chainHead(2) = 0; chainCost(0) = 13; run(2, 12) = 1; charges() = 4; stoppedAt() = 5; remaining() = 0");
    }

    private static void status() {
        String words = quote("A run ends with a status: 0 = ended, 1 = stopped by the budget,");
        for (int mode = 0; mode < 3; mode++) {
            String run = "run(" + mode + ", ";
            Script.of(words + " mode " + mode).due(run + "0)", 0).program("a0 1;h;")
                .due(run + "0)", 1).due(run + "1)", 1).due(run + "2)", 0).due(run + "30000)", 0);
        }
    }

    private static void interrupted() {
        String words = quote("2 = interrupted because 3000 instructions have been executed and another one would be executed"
            + " (this is checked before the budget).");
        for (int mode = 0; mode < 3; mode++) {
            String run = "run(" + mode + ", ";
            Script.of(words + " 2999 and the end, mode " + mode).program(LONG + "s1 1;").due(run + "30000)", 0)
                .due("steps() = 2999; stoppedAt() = -1; register(1) = 1").due(run + "2999)", 0).due(run + "2998)", 1).due("stoppedAt() = 18");
            Script.of(words + " 3000 and the end, mode " + mode).program(LONG + "s1 1;s1 2;").due(run + "30000)", 0)
                .due("steps() = 3000; stoppedAt() = -1; register(1) = 2").due(run + "3000)", 0).due(run + "2999)", 1).due("stoppedAt() = 19");
            Script.of(words + " 3000 and a halt, mode " + mode).program(LONG + "s1 1;h;").due(run + "3000)", 0)
                .due("steps() = 3000; stoppedAt() = -1; register(1) = 1");
            Script.of(words + " 3000 and another one, mode " + mode).program(LONG + "s1 1;s1 2;s1 3;").due(run + "30000)", 2)
                .due("steps() = 3000; stoppedAt() = 20; register(1) = 2").due(run + "3001)", 2).due("steps() = 3000; stoppedAt() = 20");
            Script.of(words + " before the budget, mode " + mode).program(LONG + "s1 1;s1 2;j20;").due(run + "3000)", 2)
                .due("steps() = 3000; stoppedAt() = 20; remaining() = 0").due(run + "2999)", 1).due("stoppedAt() = 19; steps() = 2999");
        }
        Script.of(words + " before a block is entered").program("j0;").due("setCost(4, 9) = 1")
            .due("run(1, 30000) = 2; charges() = 3000; remaining() = 3000; run(2, 27000) = 2; charges() = 3000; remaining() = 0; stoppedAt() = 0")
            .due("run(2, 26999) = 1; charges() = 2999; remaining() = 8; steps() = 2999; stoppedAt() = 0");
    }

    private static void kept() {
        String words = quote("The machine keeps the result of the latest run: status, number of executed instructions (steps),"
            + " remaining budget, number of charges, registers, and the number of the instruction at which the run stopped or was interrupted.");
        Script.of(words).program("a0 1;a1 2;a2 3;h;")
            .due("run(0, 2) = 1; steps() = 2; remaining() = 0; charges() = 2; register(0) = 1; register(1) = 2; register(2) = 0; stoppedAt() = 2")
            .due("run(1, 9) = 0; steps() = 4; remaining() = 5; charges() = 1; register(2) = 3; stoppedAt() = -1")
            .due("run(0, 1) = 1; steps() = 1; remaining() = 0; charges() = 1; register(0) = 1; register(1) = 0; stoppedAt() = 1")
            .program("h;").due("steps() = 1; remaining() = 0; charges() = 1; register(0) = 1; stoppedAt() = 1; undo() = 1; setCost(0, 3) = 1")
            .due("steps() = 1; remaining() = 0; charges() = 1; register(0) = 1; stoppedAt() = 1; run(3, 0) = -2; stoppedAt() = 1; clearText() = 2")
            .due("steps() = 1; stoppedAt() = 1");
        Script.of(words + ", interrupted").program("a3 1;j0;")
            .due("run(2, 30000) = 2; steps() = 3000; remaining() = 27000; charges() = 1500; register(3) = 1500; stoppedAt() = 0");
    }
}
