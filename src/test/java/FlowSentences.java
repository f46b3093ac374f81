/** The document's words on basic blocks and chains. */
final class FlowSentences {
    private FlowSentences() {
    }

    static void check() {
        leaders();
        division();
        successors();
        noBlock();
        predecessors();
        ends();
        joined();
        notJoined();
        chains();
        rings();
        costs();
    }

    private static String quote(String words) {
        return Document.quote(Document.DESCRIPTION, words);
    }

    private static void leaders() {
        String first = quote("A leader is instruction 0,");
        Script.of(first).program("a0 1;").due("blocks() = 1; blockOf(0) = 0");
        Script.of(first).program("a0 1;j0;").due("blocks() = 1; blockOf(0) = 0; blockOf(1) = 0");
        String target = quote("each target of a JUMP, JZERO or JNEG that is the number of an instruction,");
        for (String jump : new String[] {"j", "z0 ", "n0 "}) {
            Script.of(target).program("a0 1;a0 1;" + jump + "1;").due("blocks() = 2; blockOf(0) = 0; blockOf(1) = 1; blockOf(2) = 1");
            Script.of(target).program("a0 1;a0 1;" + jump + "2;").due("blocks() = 2; blockOf(1) = 0; blockOf(2) = 1");
            Script.of(target).program("a0 1;a0 1;" + jump + "3;").due("blocks() = 1; blockOf(2) = 0");
            Script.of(target).program("a0 1;a0 1;" + jump + "24;").due("blocks() = 1; blockOf(2) = 0");
            Script.of(target).program("a0 1;".repeat(23) + jump + "23;").due("blocks() = 2; blockOf(22) = 0; blockOf(23) = 1");
            Script.of(target).program("a0 1;".repeat(23) + jump + "24;").due("blocks() = 1; blockOf(23) = 0");
        }
        Script.of(target + ", no constant and no register").program("a0 2;s0 2;c0 2;d0 2;").due("blocks() = 1");
        String behind = quote("and each instruction directly behind a JUMP, JZERO, JNEG or HALT.");
        for (String before : new String[] {"j24;", "z0 24;", "n0 24;", "h;"}) {
            Script.of(behind).program("a0 1;" + before + "a0 1;").due("blocks() = 2; blockOf(1) = 0; blockOf(2) = 1");
            Script.of(behind).program("a0 1;" + before).due("blocks() = 1; blockOf(1) = 0");
        }
        for (String before : new String[] {"a0 1;", "s0 1;", "c0 1;", "d0 1;"}) {
            Script.of(behind).program("a0 1;" + before + "a0 1;").due("blocks() = 1; blockOf(2) = 0");
        }
    }

    private static void division() {
        Script.of(quote("A block begins at a leader and ends before the next leader or at the end of the program."))
            .program("a0 1;s0 1;j1;a0 1;a0 1;")
            .due("blocks() = 3; blockOf(0) = 0; blockOf(1) = 1; blockOf(2) = 1; blockOf(3) = 2; blockOf(4) = 2")
            .due("blockCost(0) = 1; blockCost(1) = 2; blockCost(2) = 2");
        String order = quote("Blocks are numbered from 0 in the order of their leaders.");
        Script.of(order).program("j4;h;h;j1;j3;")
            .due("blockOf(0) = 0; blockOf(1) = 1; blockOf(2) = 2; blockOf(3) = 3; blockOf(4) = 4; successors(0) = 16");
        Script.of(order).program("j3;a0 1;a0 1;j1;").due("blockOf(0) = 0; blockOf(1) = 1; blockOf(3) = 2; blocks() = 3");
        Script.of(order).program("h;".repeat(24)).due("blockOf(0) = 0; blockOf(23) = 23; blocks() = 24");
    }

    private static void successors() {
        String set = quote("The successors of a block are the blocks (a set) at which a run can go on directly after the"
            + " last instruction of the block, whatever the registers are:");
        Script.of(set).program("s0 1;z0 3;h;h;").due("successors(0) = 6");
        Script.of(set).program("s0 0;n0 3;h;h;").due("successors(0) = 6");
        Script.of(set).program("z0 1;h;").due("successors(0) = 2");
        Script.of(set).program("n0 1;h;").due("successors(0) = 2");
        String jump = quote("for a JUMP the target;");
        Script.of(jump).program("j2;h;h;").due("successors(0) = 4");
        Script.of(jump).program("j0;h;").due("successors(0) = 1");
        String branch = quote("for a JZERO or JNEG the target and the next instruction;");
        for (String one : new String[] {"z0 ", "n0 "}) {
            Script.of(branch).program(one + "2;h;h;").due("successors(0) = 6");
            Script.of(branch).program(one + "0;h;h;").due("successors(0) = 3");
            Script.of(branch).program(one + "23;" + "h;".repeat(23)).due("successors(0) = 8388610");
        }
        Script.of(quote("for a HALT none;")).program("h;h;").due("successors(0) = 0; successors(1) = 0");
        String other = quote("otherwise the next instruction.");
        for (String one : new String[] {"a0 1;", "s0 1;", "c0 1;", "d0 1;"}) {
            Script.of(other).program(one + "s0 1;j1;").due("successors(0) = 2; successors(1) = 2");
        }
    }

    private static void noBlock() {
        String words = quote("A number that is not less than the number of instructions belongs to no block.");
        for (String jump : new String[] {"j", "z0 ", "n0 "}) {
            int next = jump.equals("j") ? 0 : 2;
            Script.of(words).program(jump + "1;h;").due("successors(0) = 2; chainHead(1) = 0");
            Script.of(words).program(jump + "2;h;").due("successors(0)", next).due("chainHead(1) = 1");
            Script.of(words).program(jump + "24;h;").due("successors(0)", next).due("chainHead(1) = 1");
            Script.of(words).program(jump + "24;" + "h;".repeat(23)).due("successors(0)", next).due("blocks() = 24");
            Script.of(words).program("h;".repeat(23) + jump + "0;").due("successors(23) = 1");
        }
        Script.of(words).program("a0 1;").due("successors(0) = 0; blockOf(1) = -2");
        Script.of(words).program("a0 1;".repeat(24)).due("successors(0) = 0; blockOf(24) = -2");
        Script.of(words + ", a longer program before").program("h;h;h;").program("j1;").due("successors(0) = 0; blockOf(1) = -2; blocks() = 1");
    }

    private static void predecessors() {
        String words = quote("The predecessors of a block are the blocks of which it is a successor, whether a run can reach them or not.");
        Script.of(words).program("a0 1;j3;h;h;").due("reachableBlocks() = 5; chainHead(2) = 0; chainCost(2) = 3");
        Script.of(words).program("a0 1;j3;j3;h;").due("reachableBlocks() = 5; chainHead(2) = 2; chainCost(2) = 1; chainCost(0) = 2");
        Script.of(words).program("j2;z0 2;h;").due("reachableBlocks() = 5; chainHead(2) = 2");
        Script.of(words).program("j2;a0 1;h;").due("reachableBlocks() = 5; chainHead(2) = 2; chainHead(1) = 1");
    }

    private static void ends() {
        String words = quote("A block can end the run if the run can end directly after its last instruction, whatever the"
            + " registers are (the last instruction is a HALT, or one of the instructions that can follow it does not exist).");
        Script.of(words).program("h;j0;").due("leastCost() = 1; greatestCost() = 1");
        Script.of(words).program("a0 1;").due("leastCost() = 1; greatestCost() = 1");
        Script.of(words).program("j1;").due("leastCost() = 1; greatestCost() = 1");
        Script.of(words).program("j24;j1;").due("leastCost() = 1; greatestCost() = 1");
        Script.of(words).program("j0;").due("leastCost() = -1; greatestCost() = -1");
        for (String branch : new String[] {"z0 ", "n0 "}) {
            Script.of(words).program(branch + "24;a0 1;h;").due("leastCost() = 1; greatestCost() = 3; chainHead(1) = 1");
            Script.of(words).program(branch + "3;a0 1;h;").due("leastCost() = 1; greatestCost() = 3; chainHead(1) = 1");
            Script.of(words).program(branch + "1;a0 1;h;").due("leastCost() = 3; greatestCost() = 3; chainHead(1) = 0");
            Script.of(words).program("s0 1;" + branch + "0;").due("leastCost() = 2; greatestCost() = -1");
            Script.of(words).program("s0 1;" + branch + "0;j0;").due("leastCost() = -1; greatestCost() = -1");
        }
    }

    private static void joined() {
        String one = quote("A block Q is joined to a block P if P has exactly one successor, which is Q,");
        Script.of(one).program("j2;h;h;").due("chainHead(2) = 0; chainCost(2) = 2; chainHead(1) = 1");
        Script.of(one).program("z0 1;h;").due("chainHead(1) = 0; chainCost(0) = 2");
        Script.of(one).program("n0 1;h;").due("chainHead(1) = 0; chainCost(0) = 2");
        Script.of(one).program("z0 2;h;h;").due("chainHead(1) = 1; chainHead(2) = 2; chainCost(0) = 1");
        Script.of(one).program("h;h;").due("chainHead(1) = 1; chainCost(0) = 1");
        Script.of(one + ", falling into a target").program("j3;a0 1;h;a0 1;a0 1;z0 4;")
            .due("blocks() = 4; chainHead(2) = 0; chainHead(3) = 3; successors(2) = 8");
        String end = quote("and P cannot end the run,");
        Script.of(end).program("z0 2;h;").due("successors(0) = 2; chainHead(1) = 1; chainCost(0) = 1");
        Script.of(end).program("n0 24;h;").due("successors(0) = 2; chainHead(1) = 1; chainCost(0) = 1");
        Script.of(end).program("j2;h;z0 1;").due("successors(2) = 2; chainHead(1) = 1; chainHead(2) = 0; chainCost(0) = 2");
        Script.of(end).program("j2;h;n0 1;").due("successors(2) = 2; chainHead(1) = 1; chainHead(2) = 0; chainCost(0) = 2");
        Script.of(end).program("j2;h;j1;").due("successors(2) = 2; chainHead(1) = 0; chainHead(2) = 0; chainCost(0) = 3");
    }

    private static void notJoined() {
        String one = quote("and Q has exactly one predecessor, which is P,");
        Script.of(one).program("j2;h;h;").due("chainHead(2) = 0");
        Script.of(one).program("j2;j2;h;").due("chainHead(2) = 2; chainHead(1) = 1; chainCost(2) = 1");
        Script.of(one).program("z0 3;a0 1;j4;j4;h;").due("chainHead(3) = 3; chainHead(1) = 1; chainHead(2) = 2");
        Script.of(one + ", itself").program("j1;z0 1;h;").due("chainHead(1) = 1");
        String first = quote("and Q is not block 0,");
        Script.of(first).program("h;j0;").due("successors(1) = 1; chainHead(0) = 0; chainHead(1) = 1; chainCost(0) = 1; chainCost(1) = 1");
        Script.of(first).program("j1;j0;").due("chainHead(0) = 0; chainHead(1) = 0; chainCost(0) = 2; chainCost(1) = 2");
        Script.of(first).program("j2;h;j0;").due("chainHead(0) = 0; chainHead(2) = 0; chainCost(0) = 2");
        String self = quote("and Q is not P.");
        Script.of(self).program("h;j1;").due("successors(1) = 2; chainHead(1) = 1; chainCost(1) = 1");
        Script.of(self).program("j0;").due("chainHead(0) = 0; chainCost(0) = 1");
        Script.of(self).program("h;".repeat(23) + "j23;").due("chainHead(23) = 23; chainCost(23) = 1");
    }

    private static void chains() {
        String words = quote("A chain is a maximal sequence of blocks in which each block but the first is joined to the one before it.");
        Script.of(words).program("j2;h;j4;h;j3;")
            .due("chainHead(0) = 0; chainHead(2) = 0; chainHead(4) = 0; chainHead(3) = 0; chainHead(1) = 1")
            .due("chainCost(0) = 4; chainCost(2) = 4; chainCost(3) = 4; chainCost(4) = 4; chainCost(1) = 1");
        Script.of(words + ", two chains").program("z0 3;j2;h;j4;h;")
            .due("chainHead(0) = 0; chainHead(1) = 1; chainHead(2) = 1; chainHead(3) = 3; chainHead(4) = 3; chainCost(2) = 2");
        Script longest = Script.of(words + ", all 24 blocks").program("j23;h;" + jumpsDown(2));
        for (int block = 0; block < 24; block++) {
            longest.due("chainHead(" + block + ")", 0).due("chainCost(" + block + ")", 24);
        }
        longest.due("reachableBlocks() = 16777215; greatestCost() = 24; leastCost() = 24; setCost(4, 9) = 1; setCost(7, 9) = 1; chainCost(23) = 216");
    }

    /** From the given number on, each instruction jumps to the one before it. */
    private static String jumpsDown(int first) {
        StringBuilder text = new StringBuilder();
        for (int index = first; index < 24; index++) {
            text.append('j').append(index - 1).append(';');
        }
        return text.toString();
    }

    private static void rings() {
        String words = quote("A ring of blocks that are all joined to one another (which no run can reach) is broken before"
            + " its block with the lowest number.");
        Script.of(words).program("h;j2;j1;").due("chainHead(0) = 0; chainHead(1) = 1; chainHead(2) = 1; chainCost(1) = 2; chainCost(2) = 2");
        Script.of(words).program("h;j3;j1;j2;").due("chainHead(1) = 1; chainHead(2) = 1; chainHead(3) = 1; chainCost(2) = 3");
        Script.of(words).program("h;h;j4;j2;j3;").due("chainHead(1) = 1; chainHead(2) = 2; chainHead(3) = 2; chainHead(4) = 2; chainCost(4) = 3");
        Script.of(words + ", two rings").program("h;j3;j4;j1;j2;")
            .due("chainHead(1) = 1; chainHead(3) = 1; chainHead(2) = 2; chainHead(4) = 2; chainCost(1) = 2; chainCost(4) = 2");
        Script longest = Script.of(words + ", 23 blocks").program("h;j23;" + jumpsDown(2));
        for (int block = 1; block < 24; block++) {
            longest.due("chainHead(" + block + ")", 1).due("chainCost(" + block + ")", 23);
        }
        longest.due("chainHead(0) = 0; chainCost(0) = 1; reachableBlocks() = 1; greatestCost() = 1; run(2, 1) = 0; charges() = 1");
    }

    private static void costs() {
        Script.of(quote("The cost of a block is the sum of the costs of its instructions;")).program("a0 1;s0 1;c0 1;d0 1;h;h;")
            .due("setCost(0, 2) = 1; setCost(1, 3) = 1; setCost(2, 4) = 1; setCost(3, 5) = 1; setCost(7, 6) = 1")
            .due("blockCost(0) = 20; blockCost(1) = 6");
        Script.of(quote("the cost of a chain is the sum of the costs of its blocks.")).program("j2;h;a0 1;j4;z0 5;h;")
            .due("setCost(0, 2) = 1; setCost(4, 3) = 1; setCost(5, 4) = 1; setCost(7, 5) = 1; blockCost(2) = 5")
            .due("chainHead(4) = 0; chainCost(0) = 17; chainCost(2) = 17; chainCost(3) = 17; chainCost(4) = 17; chainCost(1) = 5");
    }
}
