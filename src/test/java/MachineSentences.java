/** The document's words on the machine and the costs. */
final class MachineSentences {
    /** Eight instructions that double register 0 31 times: they leave the lowest int there and 0 in register 2. */
    private static final String LOWEST = "s0 1;s2 31;z2 8;s1 0;d1 0;d0 1;a2 -1;j2;";

    private MachineSentences() {
    }

    static void check() {
        registers();
        wrap();
        size();
        changes();
        jumps();
        halt();
        operands();
        next();
        start();
        end();
        costs();
    }

    private static String quote(String words) {
        return Document.quote(Document.DESCRIPTION, words);
    }

    private static void registers() {
        String words = quote("There are 4 registers, numbered 0 to 3, each an int;");
        Script.of(words).program("s0 1;s1 2;s2 3;s3 4;").due("run(0, 4) = 0; register(0) = 1; register(1) = 2")
            .due("register(2) = 3; register(3) = 4; register(4) = 0; register(-1) = 0");
        Script.accepts(words, "a3 1;c3 3;d3 3;z3 1;n3 1;s3 1;", 6);
        Script.refuses(words, "s4 1;", 1);
        Script.of(words).program(LOWEST + "c3 0;a3 -1;")
            .due("run(0, 30000) = 0; register(0) = -2147483648; register(3) = 2147483647");
    }

    private static void wrap() {
        String words = quote("all register arithmetic wraps like Java int arithmetic.");
        Script.of(words).program(LOWEST + "c1 0;a1 -1;c3 1;a3 1;")
            .due("run(0, 30000) = 0; register(1) = 2147483647; register(3) = -2147483648");
        Script.of(words).program(LOWEST + "c1 0;a1 -99;c3 1;a3 99;")
            .due("run(1, 30000) = 0; register(1) = 2147483549; register(3) = -2147483648");
        Script.of(words).program(LOWEST + "c1 0;s3 1;d1 3;").due("run(2, 30000) = 0; register(1) = 2147483647");
        Script.of(words).program(LOWEST + "c1 0;a1 -1;s3 -1;d1 3;").due("run(2, 30000) = 0; register(1) = -2147483648");
        Script.of(words).program(LOWEST + "d2 0;d3 2;").due("run(0, 30000) = 0; register(2) = -2147483648; register(3) = -2147483648");
        Script.of(words).program(LOWEST + "c1 0;d1 2;d1 0;").due("run(0, 30000) = 0; register(1) = 0");
        Script.of(words).program(LOWEST + "n0 10;h;a0 -1;n0 13;s3 7;").due("run(0, 30000) = 0; register(3) = 7");
        Script.of(words).program("s0 1;s2 32;z2 8;s1 0;d1 0;d0 1;a2 -1;j2;z0 10;h;s3 7;")
            .due("run(0, 30000) = 0; register(0) = 0; register(3) = 7");
    }

    private static void size() {
        String words = quote("A program has at most 24 instructions, numbered from 0.");
        Script.accepts(words, "h;".repeat(23), 23);
        Script.accepts(words, "h;".repeat(24), 24);
        Script.refuses(words, "h;".repeat(25), 48);
        Script.of(words).program("a0 1;" + "h;".repeat(22) + "s0 1;")
            .due("opcode(0) = 0; opcode(1) = 7; opcode(22) = 7; opcode(23) = 1; opcode(24) = -2; opcode(-1) = -2");
    }

    private static void changes() {
        Script.of(quote("The opcodes are: 0 = ADD r k (register r becomes r + k),"))
            .program("a0 7;a0 -9;a3 99;a3 99;a1 0;")
            .due("opcode(0) = 0; run(0, 5) = 0; register(0) = -2; register(1) = 0; register(2) = 0; register(3) = 198");
        Script.of(quote("1 = SET r k (register r becomes k),"))
            .program("s0 5;s0 -99;s3 99;s1 7;s1 0;")
            .due("opcode(0) = 1; run(0, 5) = 0; register(0) = -99; register(1) = 0; register(2) = 0; register(3) = 99");
        Script.of(quote("2 = COPY r s (register r becomes the value of register s),"))
            .program("s1 7;c0 1;c3 0;s1 8;s2 -4;c2 2;")
            .due("opcode(1) = 2; run(0, 6) = 0; register(0) = 7; register(1) = 8; register(2) = -4; register(3) = 7");
        Script.of(quote("3 = SUB r s (register r becomes the value of r minus the value of s),"))
            .program("s0 5;s1 7;d0 1;d1 0;s3 4;d3 3;")
            .due("opcode(2) = 3; run(0, 6) = 0; register(0) = -2; register(1) = 9; register(2) = 0; register(3) = 0");
    }

    private static void jumps() {
        String jump = quote("4 = JUMP t (the next instruction is t),");
        Script.of(jump).program("j2;s0 1;s1 1;").due("opcode(0) = 4; run(0, 9) = 0; steps() = 2; register(0) = 0; register(1) = 1");
        Script.of(jump).program("j3;s1 2;h;s0 1;j1;").due("run(0, 9) = 0; steps() = 5; register(0) = 1; register(1) = 2");
        Script.of(jump).program("j23;" + "h;".repeat(22) + "s2 6;").due("run(0, 9) = 0; steps() = 2; register(2) = 6");
        String zero = quote("5 = JZERO r t (the next instruction is t if register r is 0),");
        Script.of(zero).program("z1 2;h;s3 6;").due("opcode(0) = 5; run(0, 9) = 0; steps() = 2; register(3) = 6");
        Script.of(zero).program("s1 1;z1 3;h;s3 6;").due("run(0, 9) = 0; steps() = 3; register(3) = 0");
        Script.of(zero).program("s1 -1;z1 3;h;s3 6;").due("run(0, 9) = 0; steps() = 3; register(3) = 0");
        Script.of(zero).program(LOWEST + "z0 10;h;s3 6;").due("run(0, 30000) = 0; register(3) = 0");
        Script.of(zero).program("s1 1;s2 1;s3 1;z0 5;h;s3 6;").due("run(0, 9) = 0; register(3) = 6");
        String negative = quote("6 = JNEG r t (the next instruction is t if register r is negative),");
        Script.of(negative).program("s1 -1;n1 3;h;s3 6;").due("opcode(1) = 6; run(0, 9) = 0; steps() = 3; register(3) = 6");
        Script.of(negative).program("s1 0;n1 3;h;s3 6;").due("run(0, 9) = 0; steps() = 3; register(3) = 0");
        Script.of(negative).program("s1 1;n1 3;h;s3 6;").due("run(0, 9) = 0; steps() = 3; register(3) = 0");
        Script.of(negative).program(LOWEST + "n0 10;h;s3 6;").due("run(0, 30000) = 0; register(3) = 6");
        Script.of(negative).program(LOWEST + "a0 -1;n0 11;h;s3 6;").due("run(0, 30000) = 0; register(3) = 0");
    }

    private static void halt() {
        Script.of(quote("7 = HALT.")).program("s0 1;h;s0 2;").due("opcode(1) = 7; run(0, 9) = 0; steps() = 2; register(0) = 1");
    }

    private static void operands() {
        String words = quote("Here r and s are registers, k is a number from -99 to 99, and t is a target, 0 to 24.");
        Script.of(words).program("a0 99;a1 -99;s2 99;s3 -99;")
            .due("run(0, 4) = 0; register(0) = 99; register(1) = -99; register(2) = 99; register(3) = -99");
        for (String constant : new String[] {"a0 ", "s3 "}) {
            Script.refuses(words, constant + "100;", 5);
            Script.refuses(words, constant + "-100;", 6);
        }
        for (String register : new String[] {"c0 ", "d3 "}) {
            Script.accepts(words, register + "0;", 1);
            Script.accepts(words, register + "3;", 1);
            Script.refuses(words, register + "4;", 3);
        }
        for (String target : new String[] {"j", "z0 ", "n3 "}) {
            Script.accepts(words, target + "0;", 1);
            Script.accepts(words, target + "24;", 1);
            Script.refuses(words, target + "25;", target.length());
        }
        for (char letter : "ascdzn".toCharArray()) {
            Script.accepts(words, letter + "0 1;", 1);
            Script.accepts(words, letter + "3 1;", 1);
            Script.refuses(words, letter + "4 1;", 1);
        }
    }

    private static void next() {
        String words = quote("Unless told otherwise, the next instruction is the one with the next number.");
        Script.of(words).program("s0 1;a1 2;c2 1;d3 0;").due("run(0, 9) = 0; steps() = 4; register(2) = 2; register(3) = -1");
        Script.of(words).program("s0 1;z0 4;n0 4;s1 5;").due("run(0, 9) = 0; steps() = 4; register(1) = 5");
    }

    private static void start() {
        String words = quote("A run starts at instruction 0 with all registers 0.");
        Script.of(words).program("a0 1;a1 2;a2 3;a3 4;")
            .due("run(0, 9) = 0; run(1, 9) = 0; register(0) = 1; register(1) = 2; register(2) = 3; register(3) = 4")
            .due("run(0, 2) = 1; register(0) = 1; register(1) = 2; register(2) = 0; register(3) = 0")
            .due("run(0, 0) = 1; stoppedAt() = 0; register(0) = 0; run(2, 9) = 0; steps() = 4; register(3) = 4");
        Script.of(words).program("z0 1;z1 2;z2 3;z3 5;h;s0 1;").due("run(0, 9) = 0; run(0, 9) = 0; steps() = 5; register(0) = 1");
    }

    private static void end() {
        String words = quote("It ends after a HALT, and also when the next instruction would have a number that is not"
            + " less than the number of instructions.");
        Script.of(words).program("h;").due("run(0, 1) = 0; steps() = 1; remaining() = 0; run(0, 0) = 1");
        Script.of(words).program("h;".repeat(24)).due("run(2, 9) = 0; steps() = 1");
        Script.of(words).program("j23;" + "h;".repeat(23)).due("run(0, 9) = 0; steps() = 2");
        Script.of(words).program("s0 1;").due("run(0, 9) = 0; steps() = 1; register(0) = 1");
        Script.of(words).program("a0 1;".repeat(24)).due("run(0, 24) = 0; steps() = 24; register(0) = 24");
        Script.of(words).program("j2;h;s0 5;").due("run(0, 9) = 0; steps() = 2; register(0) = 5");
        Script.of(words).program("j3;h;s0 5;").due("run(0, 9) = 0; steps() = 1; register(0) = 0");
        Script.of(words).program("j24;h;s0 5;").due("run(0, 9) = 0; steps() = 1; register(0) = 0");
        Script.of(words).program("z0 3;h;s0 5;").due("run(0, 9) = 0; steps() = 1");
        Script.of(words).program("s0 -1;n0 3;s0 5;").due("run(0, 9) = 0; steps() = 2; register(0) = -1");
        Script.of(words).program("s0 5;z0 0;").due("run(0, 9) = 0; steps() = 2");
        Script.of(words).program("j24;" + "h;".repeat(22) + "s0 5;").due("run(0, 9) = 0; steps() = 1; register(0) = 0");
        Script.of(words).program("h;".repeat(3)).program("j1;").due("run(0, 9) = 0; steps() = 1");
    }

    private static void costs() {
        String words = quote("Each opcode has a cost, 1 to 9, initially 1.");
        String[] texts = {"a0 1;", "s0 1;", "c0 1;", "d0 1;", "j1;", "z0 1;", "n0 1;", "h;"};
        for (int code = 0; code < 8; code++) {
            String cost = "setCost(" + code + ", ";
            Script.of(words + " " + code).program(texts[code]).due("blockCost(0) = 1; run(0, 0) = 1; run(0, 1) = 0; remaining() = 0")
                .due(cost + "9)", 1).due("blockCost(0) = 9; run(0, 8) = 1; run(0, 9) = 0; remaining() = 0")
                .due(cost + "10)", -2).due(cost + "0)", -2).due("blockCost(0) = 9").due(cost + "1)", 9).due("blockCost(0) = 1");
        }
    }
}
