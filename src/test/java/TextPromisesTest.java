/** Promises 1 to 6: a new object, the text, the assembler, the costs. */
public final class TextPromisesTest {
    public static void main(String[] args) {
        newObject();
        append();
        clearText();
        assembleAccepts();
        assembleRefuses();
        assembleNumbers();
        assembleCounts();
        assembleKeeps();
        setCost();
        opcode();
        Script.report();
    }

    private static void newObject() {
        Script.of("promise 1")
            .due("blocks() = 0; opcode(0) = -2; errorCount(-2) = 1; steps() = 0; remaining() = 0; charges() = 0")
            .due("register(0) = 0; register(1) = 0; register(2) = 0; register(3) = 0; stoppedAt() = -1")
            .due("chargeRateBits() = 0; reachableBlocks() = 0; greatestCost() = 0; leastCost() = 0")
            .due("clearText() = 0; undo() = -4; errorCount(-3) = 0; errorCount(-4) = 1");
        for (int code = 0; code < 8; code++) {
            Script.of("promise 1, costs").due("setCost(" + code + ", 9)", 1).due("setCost(" + code + ", 2)", 9);
        }
    }

    private static void append() {
        Script.of("promise 2")
            .due("append(0) = 1; append(127) = 2; append(128) = -2; append(-1) = -2; append(2147483647) = -2")
            .due("append(-2147483648) = -2; errorCount(-2) = 4; append(1) = 3; clearText() = 3");
        Script.of("promise 2, full").times(149, "append(32)")
            .due("append(32) = 150; append(32) = -3; append(128) = -2; append(-1) = -2; append(32) = -3")
            .due("errorCount(-3) = 2; errorCount(-2) = 2; assemble() = 0; clearText() = 150; append(104) = 1");
    }

    private static void clearText() {
        Script.of("promise 3").due("clearText() = 0; append(104) = 1; append(59) = 2; clearText() = 2")
            .due("clearText() = 0; assemble() = 0; append(59) = 1; assemble() = -10");
    }

    private static void accepts(String text, int count) {
        Script.accepts("promise 4", text, count);
    }

    private static void assembleAccepts() {
        accepts("", 0);
        accepts("   ", 0);
        accepts("h;", 1);
        accepts("  h  ;  ", 1);
        accepts("a0 1;s1 2;c2 3;d3 0;j24;z1 24;n2 0;h;", 8);
        accepts("a0-1;s1-99;", 2);
        accepts("a   3   -7  ;", 1);
        accepts("a03 07;", 1);
        accepts("a3 99;s00 -00;", 2);
        accepts("j00;j 24 ;z03 09;", 3);
        accepts("h;".repeat(24), 24);
        accepts(" h;".repeat(24) + "  ", 24);
    }

    private static void refuses(String text, int position) {
        Script.refuses("promise 4", text, position);
    }

    private static void assembleRefuses() {
        refuses(";", 0);
        refuses(" q;", 1);
        refuses("H;", 0);
        refuses("h", 1);
        refuses("h  ", 3);
        refuses("h;;", 2);
        refuses("h;a", 3);
        refuses("h 1;", 2);
        refuses("hh;", 1);
        refuses("a", 1);
        refuses("a0", 2);
        refuses("a0;", 2);
        refuses("a0 ", 3);
        refuses("a0 1", 4);
        refuses("a0 1 ", 5);
        refuses("a01;", 3);
        refuses("a0 1 2;", 5);
        refuses("a0 1-2;", 4);
        refuses("a0,1;", 2);
        refuses("a;", 1);
        refuses("j;", 1);
        refuses("j1 1;", 3);
        refuses("z0;", 2);
        refuses("\th;", 0);
        refuses("h\n;", 1);
        refuses("a 0 1;\u0000", 6);
        refuses("a0 1\u007f", 4);
    }

    private static void assembleNumbers() {
        refuses("a4 1;", 1);
        refuses("a  4 1;", 3);
        refuses("a4", 1);
        refuses("a04 1;", 1);
        refuses("a10", 1);
        refuses("a12x", 1);
        refuses("a003 1;", 3);
        refuses("a400 1;", 3);
        refuses("a0 100;", 5);
        refuses("a0 000;", 5);
        refuses("a0 -100;", 6);
        refuses("a0 1234;", 5);
        refuses("a0 - 1;", 4);
        refuses("a0 --1;", 4);
        refuses("a0 -", 4);
        refuses("a0 -;", 4);
        refuses("a0 +1;", 3);
        refuses("a-0 1;", 1);
        refuses("c0 -1;", 3);
        refuses("c0-1;", 2);
        refuses("d0 4;", 3);
        refuses("d4 0;", 1);
        refuses("j-1;", 1);
        refuses("j25;", 1);
        refuses("j25", 1);
        refuses("j 99;", 2);
        refuses("j024;", 3);
        refuses("j250;", 3);
        refuses("z0 25;", 3);
        refuses("z0 -1;", 3);
        refuses("z4 1;", 1);
        refuses("n0 30;", 3);
        refuses("n5 30;", 1);
        refuses("a1 2;j1 2;", 8);
        refuses("a 1 1 1;", 6);
        refuses("a0 1 1", 5);
        refuses("j1 0;", 3);
        refuses("j1  ", 4);
        refuses("c1 01 ", 6);
    }

    private static void assembleCounts() {
        refuses("h;".repeat(25), 48);
        refuses("h;".repeat(24) + "  h;", 50);
        refuses("h;".repeat(24) + "h", 48);
        refuses("h;".repeat(24) + "a4;", 48);
        refuses("h;".repeat(24) + ";", 48);
        refuses("h;".repeat(23) + "a4 1;h;", 47);
    }

    private static void assembleKeeps() {
        Script.of("promise 4: an error leaves the program").program("h;h;h;").text("h;x")
            .due("assemble() = -12; blocks() = 3; opcode(2) = 7; undo() = 0; blocks() = 0");
        Script.of("promise 4: the text stays").text("h;")
            .due("assemble() = 1; assemble() = 1; append(104) = 3; append(59) = 4; assemble() = 2; undo() = 2")
            .due("undo() = 1; blocks() = 1; undo() = 0; blocks() = 0");
        Script.of("promise 4: the costs stay").text("h;")
            .due("setCost(7, 5) = 1; assemble() = 1; blockCost(0) = 5");
        Script.of("promise 4: an empty program replaces").program("h;").program("")
            .due("blocks() = 0; opcode(0) = -2; run(0, 0) = 0; steps() = 0");
    }

    private static void setCost() {
        Script.of("promise 5").program("a0 1;h;")
            .due("setCost(0, 9) = 1; setCost(0, 1) = 9; setCost(7, 9) = 1; setCost(7, 9) = 9; blockCost(0) = 10")
            .due("setCost(0, 0) = -2; setCost(0, 10) = -2; setCost(8, 1) = -2; setCost(-1, 1) = -2")
            .due("setCost(-1, 0) = -2; setCost(2147483647, 1) = -2; setCost(0, -2147483648) = -2")
            .due("errorCount(-2) = 7; blockCost(0) = 10; undo() = 4; undo() = 3; blockCost(0) = 2");
        for (int code = 0; code < 8; code++) {
            String text = new String[] {"a0 1;", "s0 1;", "c0 1;", "d0 1;", "j1;", "z0 1;", "n0 1;", "h;"}[code];
            Script.of("promise 5, opcode " + code).program(text)
                .due("setCost(" + code + ", 7)", 1).due("blockCost(0) = 7; run(0, 6) = 1; run(0, 7) = 0");
        }
    }

    private static void opcode() {
        Script.of("promise 6").program("a0 1;s1 2;c2 3;d3 0;j24;z1 24;n2 0;h;")
            .due("opcode(0) = 0; opcode(1) = 1; opcode(2) = 2; opcode(3) = 3; opcode(4) = 4; opcode(5) = 5")
            .due("opcode(6) = 6; opcode(7) = 7; opcode(8) = -2; opcode(-1) = -2; opcode(24) = -2")
            .due("opcode(2147483647) = -2; opcode(-2147483648) = -2; errorCount(-2) = 5");
    }
}
