/** Promises 7 to 15: blocks, chains and the costs of ways. */
public final class FlowPromisesTest {
    private static final String LOOP = "s0 2;z0 4;a0 -1;j1;h;";

    public static void main(String[] args) {
        blocks();
        blockOf();
        successors();
        costs();
        chains();
        rings();
        reachable();
        greatest();
        least();
        Script.report();
    }

    private static void blocks() {
        Script.of("promise 7: a loop").program(LOOP).due("blocks() = 4");
        Script.of("promise 7: one block").program("a0 1;a1 1;").due("blocks() = 1");
        Script.of("promise 7: behind each jump and halt").program("a0 1;h;a0 1;j24;a0 1;z0 24;a0 1;n0 24;a0 1;")
            .due("blocks() = 5");
        Script.of("promise 7: a target behind the program is no leader").program("a0 1;a0 1;j3;").due("blocks() = 1");
        Script.of("promise 7: a target inside").program("a0 1;a0 1;z0 1;").due("blocks() = 2");
        Script.of("promise 7: most").program("h;".repeat(24)).due("blocks() = 24; successors(23) = 0");
        Script.of("promise 7: target 24 of a full program").program("a0 1;".repeat(23) + "j24;")
            .due("blocks() = 1; successors(0) = 0");
        Script.of("promise 7: empty").text("").due("assemble() = 0; blocks() = 0");
    }

    private static void blockOf() {
        Script.of("promise 8").program(LOOP)
            .due("blockOf(0) = 0; blockOf(1) = 1; blockOf(2) = 2; blockOf(3) = 2; blockOf(4) = 3")
            .due("blockOf(5) = -2; blockOf(-1) = -2; blockOf(2147483647) = -2; errorCount(-2) = 3");
        Script.of("promise 8: empty").due("blockOf(0) = -2");
    }

    private static void successors() {
        Script.of("promise 9").program(LOOP)
            .due("successors(0) = 2; successors(1) = 12; successors(2) = 2; successors(3) = 0")
            .due("successors(4) = -2; successors(-1) = -2; successors(-2147483648) = -2; errorCount(-2) = 3");
        Script.of("promise 9: itself").program("j0;").due("successors(0) = 1");
        Script.of("promise 9: both ways the same").program("z0 1;h;").due("successors(0) = 2");
        Script.of("promise 9: a target that does not exist").program("z0 24;h;").due("successors(0) = 2");
        Script.of("promise 9: a jump out").program("j24;h;").due("successors(0) = 0");
        Script.of("promise 9: a branch at the end").program("a0 1;n0 0;").due("successors(0) = 1");
        Script.of("promise 9: falling into a leader").program("a0 1;a0 1;z0 1;")
            .due("successors(0) = 2; successors(1) = 2");
        Script.of("promise 9: the highest block").program("j23;" + "h;".repeat(23)).due("successors(0) = 8388608");
    }

    private static void costs() {
        Script.of("promise 10").program(LOOP)
            .due("setCost(0, 4) = 1; setCost(4, 3) = 1; setCost(5, 9) = 1")
            .due("blockCost(0) = 1; blockCost(1) = 9; blockCost(2) = 7; blockCost(3) = 1; blockCost(4) = -2")
            .due("blockCost(-1) = -2; undo() = 3; blockCost(1) = 1; errorCount(-2) = 2");
        Script.of("promise 10: dearest").program("a0 1;".repeat(24)).due("setCost(0, 9) = 1; blockCost(0) = 216");
    }

    private static void chains() {
        Script.of("promises 11, 12: a chain").program("j2;h;a0 1;z1 4;a0 2;")
            .due("blocks() = 4; chainHead(0) = 0; chainHead(2) = 0; chainHead(3) = 0; chainHead(1) = 1")
            .due("chainCost(0) = 4; chainCost(2) = 4; chainCost(3) = 4; chainCost(1) = 1; setCost(0, 5) = 1")
            .due("chainCost(0) = 12; chainCost(3) = 12; chainCost(1) = 1")
            .due("chainHead(4) = -2; chainHead(-1) = -2; chainCost(4) = -2; chainCost(-1) = -2; errorCount(-2) = 4");
        Script.of("promise 11: backwards").program("j3;h;h;j2;")
            .due("chainHead(3) = 0; chainHead(2) = 0; chainHead(1) = 1; chainCost(2) = 3");
        Script.of("promise 11: a block that can end the run").program("z0 24;h;")
            .due("successors(0) = 2; chainHead(1) = 1; chainCost(0) = 1");
        Script.of("promise 11: two successors").program("z0 2;a0 1;h;")
            .due("chainHead(1) = 1; chainHead(2) = 2");
        Script.of("promise 11: two predecessors, one that no run reaches").program("a0 1;j3;j3;h;")
            .due("chainHead(0) = 0; chainHead(1) = 1; chainHead(2) = 2; reachableBlocks() = 5");
        Script.of("promise 11: never block 0").program("h;j0;")
            .due("chainHead(0) = 0; chainHead(1) = 1; chainCost(0) = 1; chainCost(1) = 1");
        Script.of("promise 11: never itself").program("h;j1;").due("chainHead(1) = 1; chainCost(1) = 1");
        Script.of("promise 11: itself as a predecessor").program("j1;z0 1;h;").due("chainHead(1) = 1");
    }

    private static void rings() {
        Script.of("promise 11: a ring").program("h;j3;j1;j2;")
            .due("chainHead(1) = 1; chainHead(2) = 1; chainHead(3) = 1; chainCost(1) = 3; chainCost(2) = 3")
            .due("chainCost(3) = 3; chainHead(0) = 0; reachableBlocks() = 1; setCost(4, 2) = 1; chainCost(3) = 6");
        Script.of("promise 11: two rings").program("h;j3;j4;j1;j2;")
            .due("chainHead(1) = 1; chainHead(3) = 1; chainHead(2) = 2; chainHead(4) = 2; chainCost(4) = 2");
        Script.of("promise 11: a loop with an entry is no ring").program("j1;j2;j1;")
            .due("chainHead(0) = 0; chainHead(1) = 1; chainHead(2) = 1; chainCost(1) = 2");
    }

    private static void reachable() {
        Script.of("promise 13").program("j3;a0 1;h;z0 2;j24;h;").due("blocks() = 6; reachableBlocks() = 29");
        Script.of("promise 13: all").program(LOOP).due("reachableBlocks() = 15");
        Script.of("promise 13: backwards").program("j4;h;j1;j2;j3;").due("reachableBlocks() = 31");
        Script.of("promise 13: block 0 alone").program("h;h;h;").due("reachableBlocks() = 1");
        Script.of("promise 13: empty").due("reachableBlocks() = 0");
    }

    private static void greatest() {
        Script.of("promise 14: two ways").program("z0 4;a0 1;a0 1;h;a1 1;h;")
            .due("greatestCost() = 4; leastCost() = 3; setCost(5, 9) = 1; greatestCost() = 12; leastCost() = 11");
        Script.of("promise 14: a cycle").program(LOOP).due("greatestCost() = -1; leastCost() = 3; errorCount(-2) = 0");
        Script.of("promise 14: itself").program("z0 0;").due("greatestCost() = -1; leastCost() = 1");
        Script.of("promise 14: a cycle out of reach").program("h;j1;").due("greatestCost() = 1");
        Script.of("promise 14: backwards").program("j4;h;j1;j2;j3;").due("greatestCost() = 5; leastCost() = 5");
        Script.of("promise 14: the end in the middle").program("z0 24;a0 1;a0 1;").due("greatestCost() = 3; leastCost() = 1");
        Script.of("promise 14: greatest, whatever the registers are").program("a0 1;z0 3;h;a0 1;h;")
            .due("greatestCost() = 4; leastCost() = 3");
        Script.of("promise 14: dearest").program("a0 1;".repeat(24)).due("setCost(0, 9) = 1; greatestCost() = 216");
        Script.of("promise 14: empty").due("setCost(0, 9) = 1; greatestCost() = 0; leastCost() = 0");
    }

    private static void least() {
        Script.of("promise 15: no end").program("a0 1;j0;h;").due("leastCost() = -1; greatestCost() = -1; errorCount(-2) = 0");
        Script.of("promise 15: the dearer block is on the way with fewer blocks")
            .program("z0 3;s0 1;j5;a0 1;h;a1 1;h;")
            .due("leastCost() = 3; setCost(0, 9) = 1; leastCost() = 11; setCost(1, 9) = 1; leastCost() = 11; greatestCost() = 21");
        Script.of("promise 15: through a cycle once").program("a0 1;z0 0;h;").due("leastCost() = 3");
        Script.of("promise 15: a branch out").program("a0 1;n0 24;j0;").due("leastCost() = 2; greatestCost() = -1");
    }
}
