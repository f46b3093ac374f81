/** The document's words on undo, on errors and on the constants. */
final class StateSentences {
    private StateSentences() {
    }

    static void check() {
        saves();
        atMostFive();
        contains();
        errors();
        constants();
    }

    private static String quote(String words) {
        return Document.quote(Document.DESCRIPTION, words);
    }

    private static void saves() {
        String words = quote("Each successful call of a method whose description says \"undoable\" saves the state from before"
            + " the call, even if the call changes nothing;");
        Script.of(words).due("assemble() = 0; undo() = 0; undo() = -4");
        Script.of(words).due("setCost(3, 1) = 1; undo() = 0; undo() = -4");
        Script.of(words).program("h;").due("assemble() = 1; setCost(7, 1) = 1; undo() = 2; blocks() = 1; undo() = 1; blocks() = 1; undo() = 0; blocks() = 0");
        Script.of(words).program("h;h;").program("h;").due("setCost(7, 4) = 1; undo() = 2; blockCost(0) = 1; undo() = 1; blocks() = 2; undo() = 0");
        Script.of(words + ", not a refused one").text("?")
            .due("assemble() = -10; setCost(0, 0) = -2; setCost(0, 10) = -2; setCost(-1, 1) = -2; setCost(8, 1) = -2; undo() = -4");
        Script.of(words + ", and no other method").program("h;").due("undo() = 0; append(32) = 3; clearText() = 3; run(0, 0) = 0; run(1, 5) = 0")
            .due("neededBudget() = 0; errorCount(-2) = 0; register(1) = 0; chargeRateBits() = 0; greatestCost() = 0; undo() = -4");
    }

    private static void atMostFive() {
        String most = quote("at most 5 states are saved,");
        for (int saved = 1; saved <= 12; saved++) {
            Script calls = Script.of(most + " " + saved + " calls").times(saved, "setCost(0, 1)");
            for (int left = Math.min(saved, 5) - 1; left >= 0; left--) {
                calls.due("undo()", left);
            }
            calls.due("undo() = -4");
        }
        String oldest = quote("and the oldest is dropped first.");
        Script.of(oldest + " five").due("setCost(0, 2) = 1; setCost(0, 3) = 2; setCost(0, 4) = 3; setCost(0, 5) = 4; setCost(0, 6) = 5")
            .due("undo() = 4; undo() = 3; undo() = 2; undo() = 1; undo() = 0; setCost(0, 9) = 1");
        Script.of(oldest + " six").due("setCost(0, 2) = 1; setCost(0, 3) = 2; setCost(0, 4) = 3; setCost(0, 5) = 4; setCost(0, 6) = 5; setCost(0, 7) = 6")
            .due("undo() = 4; undo() = 3; undo() = 2; undo() = 1; undo() = 0; undo() = -4; setCost(0, 9) = 2");
        Script.of(oldest + " seven, two undone, three more").due("setCost(0, 2) = 1; setCost(0, 3) = 2; setCost(0, 4) = 3; setCost(0, 5) = 4; setCost(0, 6) = 5; setCost(0, 7) = 6; setCost(0, 8) = 7")
            .due("undo() = 4; undo() = 3; setCost(0, 9) = 6; setCost(0, 1) = 9; setCost(0, 2) = 1")
            .due("undo() = 4; setCost(0, 1) = 1; undo() = 4; undo() = 3; undo() = 2; undo() = 1; undo() = 0; undo() = -4; setCost(0, 3) = 4");
        Script.of(oldest + " assemble too").program("h;").program("h;h;").program("h;h;h;").program("h;h;h;h;").program("h;h;h;h;h;").program("h;h;h;h;h;h;")
            .due("undo() = 4; blocks() = 5; undo() = 3; blocks() = 4; undo() = 2; blocks() = 3; undo() = 1; blocks() = 2; undo() = 0; blocks() = 1; undo() = -4; blocks() = 1");
    }

    private static void contains() {
        String words = quote("The saved state contains the program and the costs.");
        Script.of(words).program("s1 7;c0 1;d2 0;a3 -4;z2 7;n2 7;h;j6;").due("run(0, 99) = 0; neededBudget() = 8")
            .due("setCost(0, 2) = 1; setCost(7, 9) = 1").program("h;").due("blocks() = 1; blockCost(0) = 9; undo() = 3")
            .due("opcode(0) = 1; opcode(7) = 4; opcode(8) = -2; neededBudget() = 17; undo() = 2; neededBudget() = 9; undo() = 1; neededBudget() = 8")
            .due("run(0, 99) = 0; register(0) = 7; register(1) = 7; register(2) = -7; register(3) = -4");
        Script.of(words + " nothing else").program("a0 1;h;").due("run(0, 1) = 1; opcode(9) = -2; append(59) = 8; setCost(0, 3) = 1; undo() = 1; undo() = 0")
            .due("steps() = 1; stoppedAt() = 1; register(0) = 1; charges() = 1; remaining() = 0; errorCount(-2) = 1; append(59) = 9; assemble() = -17; clearText() = 9");
        Script all = Script.of(words + " all costs");
        for (int code = 0; code < 8; code++) {
            all.due("setCost(" + code + ", " + (code + 2) + ")", 1);
        }
        all.due("undo() = 4; undo() = 3; undo() = 2; undo() = 1; undo() = 0; setCost(0, 9) = 2; setCost(1, 9) = 3; setCost(2, 9) = 4")
            .due("setCost(3, 9) = 1; setCost(4, 9) = 1; setCost(5, 9) = 1; setCost(6, 9) = 1; setCost(7, 9) = 1");
    }

    /** RefusedCallsTest looks at the whole state around each refused call. */
    private static void errors() {
        Script.of(quote("A call that returns an error code changes nothing except that it increments the counter of that code."))
            .due("opcode(0) = -2; errorCount(-2) = 1; errorCount(-3) = 0; errorCount(-4) = 0; undo() = -4; errorCount(-2) = 1; errorCount(-3) = 0; errorCount(-4) = 1")
            .times(150, "append(104)").due("append(104) = -3; errorCount(-2) = 1; errorCount(-3) = 1; errorCount(-4) = 1; append(128) = -2")
            .due("errorCount(-2) = 2; errorCount(-3) = 1; errorCount(-4) = 1; clearText() = 150; digest() = " + afterErrors());
    }

    private static long afterErrors() {
        long hash = 2663;
        int[] values = {2, 1, 1, 0, 1, 1, 1, 1, 1, 1, 1, 1, 0, 0, 0, 0, 0, 0, 0, 0, 0, 0, 0, 0, 0, -1, 0};
        for (int value : values) {
            hash = 31 * hash + value;
        }
        return hash;
    }

    private static void constants() {
        constant("- `OUT_OF_RANGE = -2`: An argument is not in its range.", BudgetMeter.OUT_OF_RANGE, -2);
        constant("- `FULL = -3`: There is no more room.", BudgetMeter.FULL, -3);
        constant("- `NOTHING_SAVED = -4`: There is no saved state.", BudgetMeter.NOTHING_SAVED, -4);
        constant("- `NONE = -1`: There is no such number.", BudgetMeter.NONE, -1);
    }

    private static void constant(String words, int got, int want) {
        Script.check(Document.quote(Document.CONSTANTS, words), got, want);
    }
}
