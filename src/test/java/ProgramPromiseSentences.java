/** The words of the promises 1 to 15: the text, the program and the control flow. */
final class ProgramPromiseSentences {
    private static final String LOOP = "s0 2;z0 4;a0 -1;j1;h;";
    private static final int[] FAR = {Integer.MIN_VALUE, Integer.MAX_VALUE, -2, 25, 1000};

    private ProgramPromiseSentences() {
    }

    static void check() {
        newObject();
        append();
        clearText();
        assemble();
        assembleErrors();
        setCost();
        opcode();
        blocks();
        blockOf();
        successors();
        blockCost();
        chainHead();
        chainCost();
        reachable();
        greatest();
        least();
    }

    private static String quote(int promise, String words) {
        return Document.quote("Promise " + promise, words);
    }

    private static void newObject() {
        Script.of(quote(1, "Creates a machine with an empty program, an empty text, and a latest run with status 0, 0 steps,"
                + " remaining budget 0, 0 charges and all registers 0."))
            .due("blocks() = 0; steps() = 0; remaining() = 0; charges() = 0; register(0) = 0; register(1) = 0; register(2) = 0; register(3) = 0")
            .due("stoppedAt() = -1; errorCount(-2) = 0; errorCount(-3) = 0; errorCount(-4) = 0; digest() = 8233400992709594266")
            .due("opcode(0) = -2; undo() = -4; clearText() = 0; assemble() = 0");
        Script.of("Promise 1, an object knows nothing of another").program("a0 1;").due("run(0, 0) = 1; opcode(9) = -2");
        Script.of("Promise 1, an object knows nothing of another").due("blocks() = 0; errorCount(-2) = 0; stoppedAt() = -1; clearText() = 0; setCost(0, 1) = 1");
    }

    private static void append() {
        Script.of(quote(2, "Appends a byte to the source text.")).due("append(104) = 1; append(59) = 2; assemble() = 1; append(115) = 3; assemble() = -13")
            .due("append(50) = 4; append(45) = 5; append(55) = 6; append(59) = 7; assemble() = 2; opcode(0) = 7; opcode(1) = 1");
        String range = quote(2, "- `value`: the byte, 0 to 127");
        Script all = Script.of(range);
        for (int value = 0; value < 128; value++) {
            all.due("append(" + value + ")", value + 1);
        }
        all.due("append(-1) = -2; append(128) = -2; errorCount(-2) = 2; clearText() = 128");
        Script.of(quote(2, "Returns the new length of the text;")).due("append(0) = 1; append(127) = 2").times(147, "append(32)").due("append(9) = 150");
        String wrong = quote(2, "OUT_OF_RANGE if value is out of range (checked first);");
        Script.of(wrong).due("append(-1) = -2; append(128) = -2; append(255) = -2; append(256) = -2; append(2147483647) = -2; append(-2147483648) = -2; append(-128) = -2")
            .due("errorCount(-2) = 7; errorCount(-3) = 0; append(5) = 1");
        Script.of(wrong + " before the full text").times(150, "append(32)")
            .due("append(-1) = -2; append(128) = -2; errorCount(-2) = 2; errorCount(-3) = 0; clearText() = 150");
        Script.of(quote(2, "FULL if the text has 150 bytes.")).times(149, "append(32)").due("append(104) = 150; append(59) = -3; append(0) = -3; append(127) = -3")
            .due("errorCount(-3) = 3; errorCount(-2) = 0; assemble() = -160; clearText() = 150; append(59) = 1");
    }

    private static void clearText() {
        Script.of(quote(3, "Empties the source text.")).text("h;h").due("assemble() = -13; clearText() = 3; assemble() = 0; append(104) = 1; append(59) = 2; assemble() = 1");
        Script.of(quote(3, "Returns the length that the text had.")).due("clearText() = 0; append(9) = 1; clearText() = 1; clearText() = 0")
            .times(149, "append(9)").due("clearText() = 149; clearText() = 0").times(150, "append(9)").due("append(9) = -3; clearText() = 150; clearText() = 0");
    }

    private static void assemble() {
        String replaces = quote(4, "Replaces the program with the instructions of the source text.");
        nothingOfTheOneBefore(replaces);
        Script.of(replaces).program("a0 1;j0;").program("h;s0 1;z0 0;")
            .due("blocks() = 2; opcode(0) = 7; opcode(1) = 1; opcode(2) = 5; opcode(3) = -2; run(0, 9) = 0; steps() = 1")
            .text("h;").due("assemble() = 1; opcode(1) = -2; blockOf(1) = -2; successors(1) = -2").text("").due("assemble() = 0; blocks() = 0; opcode(0) = -2");
        Script.of(quote(4, "The text stays as it is.")).text("h; ").due("assemble() = 1; assemble() = 1; append(104) = 4; assemble() = -14; append(59) = 5; assemble() = 2; clearText() = 5");
        Script.of(quote(4, "Undoable.")).program("h;").program("h;h;").due("undo() = 1; blocks() = 1; undo() = 0; blocks() = 0; undo() = -4");
        String count = quote(4, "Returns the number of instructions;");
        Script.of(count).due("assemble() = 0; append(104) = 1; append(59) = 2; assemble() = 1");
        Script.of(count).text("h;".repeat(23)).due("assemble() = 23; append(106) = 47; append(49) = 48; append(59) = 49; assemble() = 24");
    }

    /** Whatever program was there before: the next one is as on a new object, and so is the first one after an undo. */
    private static void nothingOfTheOneBefore(String words) {
        String[] programs = {"", "h;", LOOP, "h;".repeat(24), "a0 1;".repeat(24), "j2;h;a0 1;z1 4;a0 2;", "j1;j2;j1;", "z0 24;n0 24;a0 1;",
            "h;j3;j1;j2;", "a0 1;j3;j3;h;", "j4;h;j1;j2;j3;", "a0 1;s1 1;a2 1;z0 1;d0 1;j0;", "s0 3;a0 -1;j4;h;z0 3;j1;", "z0 1;z0 2;z0 3;z0 4;a0 1;a0 2;"};
        for (String before : programs) {
            for (String next : programs) {
                String name = words + " " + next + " after " + before;
                sameAs(Script.of(name), Script.of(name).program(before).program(next), next);
                sameAs(Script.of(name), Script.of(name).program(next).program(before).due("undo() = 1"), next);
            }
        }
    }

    private static void sameAs(Script fresh, Script used, String program) {
        fresh.program(program);
        int size = (int) program.chars().filter(sign -> sign == ';').count();
        for (String call : new String[] {"blocks()", "reachableBlocks()", "greatestCost()", "leastCost()", "neededBudget()"}) {
            used.due(call, fresh.answer(call));
        }
        for (int index = 0; index <= size; index++) {
            for (String name : new String[] {"opcode", "blockOf", "successors", "blockCost", "chainHead", "chainCost"}) {
                used.due(name + "(" + index + ")", fresh.answer(name + "(" + index + ")"));
            }
        }
        for (String run : new String[] {"run(0, 50)", "run(1, 50)", "run(2, 50)", "run(0, 3)", "run(1, 3)", "run(2, 3)"}) {
            for (String call : new String[] {run, "steps()", "remaining()", "charges()", "register(0)", "register(1)", "register(2)", "stoppedAt()"}) {
                used.due(call, fresh.answer(call));
            }
        }
    }

    private static void assembleErrors() {
        String code = quote(4, "-10 minus the syntax error position if there is a syntax error");
        Script.of(code).text(";").due("assemble() = -10");
        Script.of(code).text(" ;").due("assemble() = -11");
        Script.of(code).text("h").due("assemble() = -11");
        Script.of(code).text(" ".repeat(149) + ";").due("assemble() = -159");
        Script.of(code).text(" ".repeat(149) + "h").due("assemble() = -160");
        String stays = quote(4, "(then the program stays as it is, no state is saved, and no error is counted).");
        Script.of(stays).program(LOOP).due("run(0, 5) = 1").text("s1 1;h;h;a0 1;j9;?")
            .due("assemble() = -27; blocks() = 4; opcode(0) = 1; opcode(1) = 5; opcode(4) = 7; successors(1) = 12; neededBudget() = 9; stoppedAt() = 2")
            .due("errorCount(-2) = 0; errorCount(-3) = 0; errorCount(-4) = 0; run(0, 99) = 0; steps() = 9; undo() = 0; undo() = -4");
        Script.of(stays + " five errors drop nothing").program("h;").text("?").times(5, "assemble()").due("assemble() = -10; blocks() = 1; undo() = 0; blocks() = 0");
    }

    private static void setCost() {
        Script.of(quote(5, "Sets the cost of an opcode.")).program("a0 1;s0 1;c0 1;d0 1;z0 5;n0 6;j7;h;")
            .due("setCost(4, 7) = 1; neededBudget() = 14; blockCost(2) = 7; run(0, 12) = 1; stoppedAt() = 6; run(0, 13) = 1; stoppedAt() = 7; run(0, 14) = 0; setCost(5, 4) = 1; neededBudget() = 17; blockCost(0) = 8");
        Script.of(quote(5, "Undoable.")).due("setCost(2, 5) = 1; setCost(2, 6) = 5; undo() = 1; setCost(2, 7) = 5; undo() = 1; undo() = 0; setCost(2, 8) = 1");
        Script.of(quote(5, "- `opcode`: 0 to 7")).due("setCost(-1, 1) = -2; setCost(0, 2) = 1; setCost(7, 2) = 1; setCost(8, 1) = -2; errorCount(-2) = 2; undo() = 1");
        Script.of(quote(5, "- `cost`: new cost, 1 to 9")).due("setCost(3, 0) = -2; setCost(3, 1) = 1; setCost(3, 9) = 1; setCost(3, 10) = -2; setCost(3, 2) = 9; setCost(3, -1) = -2; errorCount(-2) = 3");
        Script.of(quote(5, "Returns the previous cost;")).due("setCost(6, 9) = 1; setCost(6, 9) = 9; setCost(6, 1) = 9; setCost(6, 4) = 1; setCost(5, 4) = 1; setCost(6, 5) = 4");
        Script wrong = Script.of(quote(5, "OUT_OF_RANGE if an argument is out of range."));
        for (int far : FAR) {
            wrong.due("setCost(" + far + ", 5)", -2).due("setCost(5, " + far + ")", -2).due("setCost(" + far + ", " + far + ")", -2);
        }
        wrong.due("setCost(-1, 0) = -2; setCost(8, 10) = -2; errorCount(-2) = 17; undo() = -4; setCost(5, 2) = 1");
    }

    /** The numbers just outside and far outside of 0 to count - 1 are refused, each with the counter of -2. */
    private static void refusesOutside(String words, String program, String call, int count) {
        Script script = Script.of(words + " " + program).program(program);
        script.due(call + "(-1)", -2).due(call + "(" + count + ")", -2).due("errorCount(-2) = 2");
        for (int far : FAR) {
            script.due(call + "(" + far + ")", -2);
        }
        script.due("errorCount(-2) = 7; errorCount(-3) = 0; errorCount(-4) = 0");
        for (int inside = 0; inside < count; inside++) {
            long got = script.answer(call + "(" + inside + ")");
            Script.check(words + " " + program + ": " + call + "(" + inside + ") is not refused", got == -2 ? 1 : 0, 0);
        }
        script.due("errorCount(-2) = 7");
    }

    /** No program, one of one instruction, one of some, one that is full; the number of instructions and of blocks. */
    private static void refusesOutside(String words, String call, boolean blocks) {
        refusesOutside(words, "", call, 0);
        refusesOutside(words, "h;", call, 1);
        refusesOutside(words, LOOP, call, blocks ? 4 : 5);
        refusesOutside(words, "a0 1;".repeat(24), call, blocks ? 1 : 24);
        refusesOutside(words, "h;".repeat(24), call, 24);
    }

    private static void opcode() {
        Script.of(quote(6, "Returns the opcode of an instruction.")).program("h;n0 1;z0 1;j1;d0 1;c0 1;s0 1;a0 1;")
            .due("opcode(0) = 7; opcode(1) = 6; opcode(2) = 5; opcode(3) = 4; opcode(4) = 3; opcode(5) = 2; opcode(6) = 1; opcode(7) = 0");
        Script.of(quote(6, "- `index`: number of an instruction")).program("j0;".repeat(24)).due("opcode(0) = 4; opcode(23) = 4; opcode(24) = -2; opcode(-1) = -2");
        refusesOutside(quote(6, "Returns the opcode; OUT_OF_RANGE if there is no such instruction."), "opcode", false);
    }

    private static void blocks() {
        Script.of(quote(7, "Returns the number of blocks. Returns the number of blocks;")).program("h;".repeat(24)).due("blocks() = 24")
            .program("h;").due("blocks() = 1").program(LOOP).due("blocks() = 4; undo() = 2; blocks() = 1; undo() = 1; blocks() = 24");
        Script.of(quote(7, "0 if the program is empty.")).due("blocks() = 0").program("h;").due("blocks() = 1").program(" ").due("blocks() = 0");
    }

    private static void blockOf() {
        Script.of(quote(8, "Returns the block of an instruction.")).program(LOOP).due("blockOf(0) = 0; blockOf(1) = 1; blockOf(2) = 2; blockOf(3) = 2; blockOf(4) = 3");
        Script.of(quote(8, "- `index`: number of an instruction")).program("a0 1;".repeat(24)).due("blockOf(0) = 0; blockOf(23) = 0; blockOf(24) = -2; blockOf(-1) = -2");
        refusesOutside(quote(8, "Returns the number of its block; OUT_OF_RANGE if there is no such instruction."), "blockOf", false);
    }

    private static void successors() {
        Script.of(quote(9, "Returns the successors of a block.")).program(LOOP).due("successors(0) = 2; successors(1) = 12; successors(2) = 2; successors(3) = 0");
        Script.of(quote(9, "- `block`: number of a block")).program(LOOP).due("successors(3) = 0; successors(4) = -2; successors(-1) = -2");
        String set = quote(9, "Returns a bit set of blocks;");
        Script.of(set).program("j23;" + "h;".repeat(22) + "z0 22;").due("successors(0) = 8388608; successors(23) = 4194304");
        Script.of(set).program("z0 0;z0 0;").due("successors(0) = 3; successors(1) = 1");
        refusesOutside(quote(9, "OUT_OF_RANGE if there is no such block."), "successors", true);
    }

    private static void blockCost() {
        Script.of(quote(10, "Returns the cost of a block.")).program(LOOP).due("blockCost(0) = 1; blockCost(1) = 1; blockCost(2) = 2; blockCost(3) = 1")
            .due("setCost(0, 9) = 1; blockCost(2) = 10; setCost(4, 9) = 1; blockCost(2) = 18; blockCost(0) = 1; undo() = 2; blockCost(2) = 10");
        Script.of(quote(10, "- `block`: number of a block")).program(LOOP).due("blockCost(3) = 1; blockCost(4) = -2; blockCost(-1) = -2");
        refusesOutside(quote(10, "Returns the cost; OUT_OF_RANGE if there is no such block."), "blockCost", true);
        Script.of("Promise 10, the least and the greatest cost").program("a0 1;").due("blockCost(0) = 1").program("a0 1;".repeat(24)).due("setCost(0, 9) = 1; blockCost(0) = 216");
    }

    private static void chainHead() {
        Script.of(quote(11, "Returns the first block of the chain to which a block belongs.")).program("j2;h;j4;h;j3;")
            .due("chainHead(0) = 0; chainHead(1) = 1; chainHead(2) = 0; chainHead(3) = 0; chainHead(4) = 0; undo() = 0; chainHead(0) = -2");
        Script.of(quote(11, "- `block`: number of a block")).program(LOOP).due("chainHead(3) = 3; chainHead(4) = -2; chainHead(-1) = -2");
        String first = quote(11, "Returns the number of the first block;");
        Script.of(first + " not of the lowest").program("z0 5;h;h;h;h;j7;h;j2;").due("chainHead(2) = 5; chainHead(7) = 5; chainHead(5) = 5; chainCost(2) = 3");
        refusesOutside(quote(11, "OUT_OF_RANGE if there is no such block."), "chainHead", true);
    }

    private static void chainCost() {
        Script.of(quote(12, "Returns the cost of the chain to which a block belongs.")).program("j2;h;j4;h;j3;")
            .due("chainCost(0) = 4; chainCost(3) = 4; chainCost(1) = 1; setCost(4, 5) = 1; chainCost(0) = 16; chainCost(3) = 16; chainCost(1) = 1; undo() = 1; chainCost(4) = 4");
        Script.of(quote(12, "- `block`: number of a block")).program(LOOP).due("chainCost(3) = 1; chainCost(4) = -2; chainCost(-1) = -2");
        refusesOutside(quote(12, "Returns the cost of the chain; OUT_OF_RANGE if there is no such block."), "chainCost", true);
    }

    private static void reachable() {
        String words = quote(13, "Returns the blocks that can be reached from block 0 by going from blocks to successors, block 0 included.");
        Script.of(words).program("j3;a0 1;h;z0 2;j24;h;").due("reachableBlocks() = 29");
        Script.of(words).program("h;h;").due("reachableBlocks() = 1");
        Script.of(words).program("j0;h;").due("reachableBlocks() = 1");
        Script.of(words).program("s0 1;z0 3;h;h;").due("reachableBlocks() = 7");
        Script.of(words + " against the order of the numbers").program("j4;h;j1;j2;j3;j5;").due("reachableBlocks() = 31");
        Script.of(quote(13, "Returns a bit set of blocks;")).program("j23;" + "h;".repeat(23)).due("reachableBlocks() = 8388609");
        Script.of(quote(13, "0 if the program is empty.")).due("reachableBlocks() = 0").program("h;").due("reachableBlocks() = 1").program("").due("reachableBlocks() = 0");
    }

    private static void greatest() {
        String words = quote(14, "Computes the greatest cost of a run as far as the control flow tells: the greatest sum of block costs"
            + " over all ways from block 0 to a block that can end the run.");
        Script.of(words).program("z0 4;a0 1;a0 1;h;s1 1;h;").due("greatestCost() = 4; setCost(1, 9) = 1; greatestCost() = 11; setCost(0, 9) = 1; greatestCost() = 20");
        Script.of(words + " on from a block that can end").program("z0 24;n0 24;a0 1;").due("greatestCost() = 3");
        Script.of(words + " whatever the registers are").program("s0 1;z0 3;h;a0 1;a0 1;").due("greatestCost() = 4; run(0, 9) = 0; steps() = 3");
        Script.of(words + " two ways meet").program("z0 3;a0 1;a0 1;z0 5;s0 1;h;").due("greatestCost() = 6; leastCost() = 3");
        String result = quote(14, "Returns the greatest cost;");
        Script.of(result).program("a0 1;").due("greatestCost() = 1").program("a0 1;".repeat(24)).due("greatestCost() = 24; setCost(0, 9) = 1; greatestCost() = 216");
        Script.of(quote(14, "0 if the program is empty;")).due("setCost(0, 9) = 1; greatestCost() = 0").program("h;").due("greatestCost() = 1").program("").due("greatestCost() = 0");
        String cycle = quote(14, "NONE if a cycle of blocks can be reached from block 0.");
        Script.of(cycle).program(LOOP).due("greatestCost() = -1; errorCount(-2) = 0");
        Script.of(cycle + " one block").program("z0 0;h;").due("greatestCost() = -1");
        Script.of(cycle + " one that no run takes").program("s0 1;z0 3;h;j3;").due("greatestCost() = -1; run(0, 9) = 0");
        Script.of(cycle + " one out of reach").program("h;j2;j1;j3;").due("greatestCost() = 1");
        Script.of(cycle + " one from which block 0 can't be left").program("z0 2;h;j2;").due("greatestCost() = -1; leastCost() = 2");
    }

    private static void least() {
        String words = quote(15, "Computes the least cost of a run as far as the control flow tells: the least sum of block costs"
            + " over all ways from block 0 to a block that can end the run.");
        Script.of(words).program("z0 4;a0 1;a0 1;h;s1 1;h;").due("leastCost() = 3; setCost(1, 9) = 1; leastCost() = 4; setCost(0, 9) = 1; leastCost() = 11");
        Script.of(words + " in spite of a cycle").program(LOOP).due("leastCost() = 3");
        Script.of(words + " the first block that can end").program("z0 24;n0 24;a0 1;").due("leastCost() = 1");
        Script.of(words + " more blocks, but cheaper").program("z0 5;j2;j3;j4;h;a0 1;h;").due("leastCost() = 3; setCost(0, 9) = 1; leastCost() = 5");
        Script.of(words + " whatever the registers are").program("s0 1;z0 4;a0 1;a0 1;h;").due("leastCost() = 3; run(0, 9) = 0; steps() = 5");
        Script.of(words + " against the order of the numbers").program("j4;h;j1;j2;j3;").due("leastCost() = 5");
        Script.of(words + " a cheaper way found later").program("z0 5;a0 1;a0 1;a0 1;h;j7;h;j6;").due("leastCost() = 4; setCost(4, 9) = 1; leastCost() = 5; setCost(0, 9) = 1; leastCost() = 20");
        Script.of(quote(15, "Returns the least cost;")).program("h;").due("leastCost() = 1").program("a0 1;".repeat(24)).due("leastCost() = 24; setCost(0, 9) = 1; leastCost() = 216");
        Script.of(quote(15, "0 if the program is empty;")).due("setCost(0, 9) = 1; leastCost() = 0").program("h;").due("leastCost() = 1").program("").due("leastCost() = 0");
        String none = quote(15, "NONE if no such block can be reached.");
        Script.of(none).program("j0;h;").due("leastCost() = -1; errorCount(-2) = 0");
        Script.of(none).program("z0 2;j0;n0 0;j1;").due("leastCost() = -1; greatestCost() = -1");
        Script.of(none + " but one can").program("z0 2;j0;n0 0;").due("leastCost() = 2; greatestCost() = -1");
    }
}
