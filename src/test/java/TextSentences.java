/** The document's words on the source text and the syntax error position. */
final class TextSentences {
    private static final String DIGITS = "0123456789";

    private TextSentences() {
    }

    static void check() {
        length();
        forms();
        numbers();
        spaces();
        requiredSpaces();
        noInstructions();
        firstWrongByte();
        everyByte();
        endsTooEarly();
        threeDigits();
        ranges();
        surplus();
    }

    private static String quote(String words) {
        return Document.quote(Document.DESCRIPTION, words);
    }

    private static void length() {
        String words = quote("The text has at most 150 bytes.");
        Script.of(words).times(148, "append(32)").due("append(104) = 149; append(59) = 150; append(59) = -3; assemble() = 1; clearText() = 150");
        Script.of(words).times(149, "append(32)").due("append(104) = 150; append(59) = -3; assemble() = -160; clearText() = 150");
        Script.of(words + ", an error at the last byte").times(149, "append(32)").due("append(59) = 150; assemble() = -159");
        Script.of(words + ", anew after it is emptied").times(150, "append(32)").due("append(32) = -3; clearText() = 150; append(32) = 1");
    }

    private static void forms() {
        String words = quote("It is a sequence of instructions, each terminated by a semicolon: \"a r k\" (ADD), \"s r k\" (SET),"
            + " \"c r s\" (COPY), \"d r s\" (SUB), \"j t\" (JUMP), \"z r t\" (JZERO), \"n r t\" (JNEG), \"h\" (HALT).");
        Script.of(words).text("a 0 1;s 1 2;c 2 3;d 3 0;j 8;z 1 8;n 2 8;h;")
            .due("assemble() = 8; opcode(0) = 0; opcode(1) = 1; opcode(2) = 2; opcode(3) = 3; opcode(4) = 4; opcode(5) = 5; opcode(6) = 6; opcode(7) = 7");
        Script.of(words + ", which number is which").program("a1 3;s2 1;c3 2;d0 1;z1 9;n0 7;h;s2 9;")
            .due("run(0, 9) = 0; register(0) = -3; register(1) = 3; register(2) = 9; register(3) = 1; steps() = 7");
        String[] whole = {"a0 1", "s0 1", "c0 1", "d0 1", "j1", "z0 1", "n0 1", "h"};
        for (String one : whole) {
            Script.accepts(words, one + ";", 1);
            Script.accepts(words, one + ";" + one + ";", 2);
            Script.refuses(words, one, one.length());
            Script.refuses(words, one + one, one.length());
            Script.refuses(words, one + ";;", one.length() + 1);
            Script.refuses(words, one + " 1;", one.length() + 1);
            Script.refuses(words, Character.toUpperCase(one.charAt(0)) + one.substring(1) + ";", 0);
        }
        Script.refuses(words, ";", 0);
        Script.refuses(words, "0 1;", 0);
    }

    private static void numbers() {
        String words = quote("A number has 1 or 2 digits; a minus sign may stand directly in front of the digits of k, but of no other number.");
        Script.of(words).program("a0 7;a01 42;s02 -8;s03 -00;").due("run(0, 9) = 0; register(0) = 7; register(1) = 42; register(2) = -8; register(3) = 0");
        Script.of(words).program("c0 03;j03;h;s00 -99;").due("run(0, 9) = 0; register(0) = -99");
        Script.of(words).program("z0 02;h;s0 09;").due("run(0, 9) = 0; register(0) = 9");
        Script.refuses(words, "a0 ;", 3);
        Script.refuses(words, "a0 -;", 4);
        Script.refuses(words, "a0 000;", 5);
        Script.refuses(words, "a0 --1;", 4);
        Script.refuses(words, "a0 - 1;", 4);
        Script.refuses(words, "a0 1-;", 4);
        Script.refuses(words, "a0 +1;", 3);
        for (String before : new String[] {"a", "s", "c", "d", "z", "n", "j", "c0 ", "d0 ", "z0 ", "n0 "}) {
            Script.refuses(words, before + "-0;", before.length());
            Script.refuses(words, before + "-1;", before.length());
        }
    }

    private static void spaces() {
        String words = quote("Spaces (byte 32) may stand anywhere except inside a number (the minus sign belongs to the number);");
        Script.of(words).text("  a  1   -12  ;  c  2  01  ;  j  03  ;  h  ;  ").due("assemble() = 4; run(0, 9) = 0; register(1) = -12; register(2) = -12; steps() = 4");
        Script.refuses(words, "a1 - 12;", 4);
        Script.refuses(words, "a1 1 2;", 5);
        Script.refuses(words, "j1 2;", 3);
        Script.refuses(words, "j 1 2;", 4);
        Script.refuses(words, "c1 0 1;", 5);
        for (char other : "\t\n\r\u000b\f\u0000\u001f!\u007f".toCharArray()) {
            Script.refuses(words, other + "h;", 0);
            Script.refuses(words, "h" + other + ";", 1);
            Script.refuses(words, "h;" + other, 2);
            Script.refuses(words, "a0" + other + "1;", 2);
        }
    }

    private static void requiredSpaces() {
        String words = quote("they are required only between two numbers of which the second has no minus sign.");
        Script.of(words).text("a1-12;s2-3;a0 7;h;").due("assemble() = 4; run(0, 9) = 0; register(0) = 7; register(1) = -12; register(2) = -3");
        Script.of(words).text("a01-99;").due("assemble() = 1; run(0, 9) = 0; register(1) = -99");
        Script.refuses(words, "a11;", 1);
        Script.refuses(words, "a01;", 3);
        Script.refuses(words, "c01;", 3);
        Script.refuses(words, "z00;", 3);
        Script.refuses(words, "a012;", 3);
        Script.accepts(words, "a01 2;", 1);
        Script.accepts(words, "a0 12;", 1);
    }

    private static void noInstructions() {
        String words = quote("The text may have no instructions.");
        Script.accepts(words, "", 0);
        Script.accepts(words, " ", 0);
        Script.accepts(words, " ".repeat(150), 0);
        Script.of(words).program("h;").text("").due("assemble() = 0; blocks() = 0; opcode(0) = -2; run(2, 3) = 0; remaining() = 3");
    }

    private static void firstWrongByte() {
        String words = quote("The syntax error position is the index of the first byte that cannot stand where it stands,");
        Script.refuses(words, "?", 0);
        Script.refuses(words, "??", 0);
        Script.refuses(words, "h;?;a9 999;", 2);
        Script.refuses(words, "a4 ?;", 1);
        Script.refuses(words, "a?4;", 1);
        Script.refuses(words, "a3 ?;j25;", 3);
        Script.refuses(words, "j25;?", 1);
        Script.refuses(words, "h;".repeat(24) + "?", 48);
        Script.refuses(words, "h;".repeat(23) + "?;h;h;", 46);
        Script.refuses(words, " ".repeat(149) + "?", 149);
        Script.refuses(words, "h;" + "?".repeat(148), 2);
    }

    /** Behind each kind of place in the text, each of the 128 bytes. */
    private static void everyByte() {
        after("", " ascdjznh", "", "");
        after(" ", " ascdjznh", "", "");
        after("h;", " ascdjznh", "", "");
        after("h; ", " ascdjznh", "", "");
        after("h;".repeat(23), " ascdjznh", "", "");
        after("h;".repeat(24), " ", "", "");
        after("h;".repeat(24) + " ", " ", "", "");
        after("h", " ", ";", "");
        after("h ", " ", ";", "");
        for (char letter : "ascdzn".toCharArray()) {
            after(letter + "", " 0123", "", "");
            after(letter + " ", " 0123", "", "");
            String sign = letter == 'a' || letter == 's' ? "-" : "";
            after(letter + "0", " 0123" + sign, "", "456789");
            after(letter + "3", " " + sign, "", DIGITS);
            after(letter + "03", " " + sign, "", "");
            after(letter + " 0 ", " " + sign + (letter == 'c' || letter == 'd' ? "0123" : DIGITS), "", "");
        }
        for (String constant : new String[] {"a0 ", "s3  ", "a0 -", "s0-", "s03 -"}) {
            after(constant + "0", " " + DIGITS, ";", "");
            after(constant + "9", " " + DIGITS, ";", "");
            after(constant + "99", " ", ";", "");
            after(constant + "9 ", " ", ";", "");
        }
        after("a0 -", DIGITS, "", "");
        after("s0-", DIGITS, "", "");
        after("j", " " + DIGITS, "", "");
        after("j ", " " + DIGITS, "", "");
        for (String register : new String[] {"c0 ", "d3  "}) {
            after(register + "0", " 0123", ";", "456789");
            after(register + "1", " ", ";", DIGITS);
            after(register + "03", " ", ";", "");
            after(register + "3 ", " ", ";", "");
        }
        for (String target : new String[] {"j", "j ", "z0 ", "n3  ", "z03 "}) {
            after(target + "0", " " + DIGITS, ";", "");
            after(target + "2", " 01234", ";", "56789");
            after(target + "3", " ", ";", DIGITS);
            after(target + "24", " ", ";", "");
            after(target + "2 ", " ", ";", "");
        }
    }

    /**
     * Each byte behind the text: one of {@code goes} may stand there, but the text ends too early (or rightly, where it
     * ends between instructions); one of {@code ends} completes it; one of {@code back} makes the number too great, and
     * its first digit the error; every other can't stand there.
     */
    private static void after(String text, String goes, String ends, String back) {
        int length = text.length();
        boolean between = text.isBlank() || text.trim().endsWith(";");
        for (char next = 0; next < 128; next++) {
            BudgetMeter meter = new BudgetMeter();
            for (char sign : (text + next).toCharArray()) {
                meter.append(sign);
            }
            int due = -10 - length;
            if (ends.indexOf(next) >= 0 || between && next == ' ') {
                due = (int) (text + next).chars().filter(sign -> sign == ';').count();
            } else if (goes.indexOf(next) >= 0) {
                due = -10 - length - 1;
            } else if (back.indexOf(next) >= 0) {
                due = -10 - length + 1;
            }
            Script.check("byte " + (int) next + " behind \"" + text + "\"", meter.assemble(), due);
        }
    }

    private static void endsTooEarly() {
        String words = quote("or the length of the text if the text ends too early.");
        for (String text : new String[] {"h", "h ", "a", "a ", "a0", "a0 ", "a0 -", "a0 1", "a0 12 ", "c0", "c0 3", "d", "z3 ", "n1 24", "j", "j ", "j2", "j24"}) {
            Script.refuses(words, text, text.length());
            Script.refuses(words, "h;" + text, text.length() + 2);
        }
        Script.refuses(words, " ".repeat(149) + "h", 150);
        Script.refuses(words, "h;".repeat(23) + "h", 47);
    }

    private static void threeDigits() {
        String words = quote("A number with three or more digits has its error at the third digit, whatever its value;");
        for (String number : new String[] {"000", "001", "003", "012", "024", "100", "240", "250", "999", "0000", "0001", "9999", "000000"}) {
            for (String before : new String[] {"a", "c", "z 0 ", "d0 ", "n0 ", "j", "j  ", "s0 ", "a0 -", "s0-"}) {
                Script.refuses(words, before + number + ";", before.length() + 2);
                Script.refuses(words, before + number, before.length() + 2);
                Script.refuses(words, before + number + " 1;", before.length() + 2);
            }
        }
        String range = quote("the range of a number is checked only if it has one or two digits.");
        Script.refuses(range, "a400 1;", 3);
        Script.refuses(range, "a40 1;", 1);
        Script.refuses(range, "a4 1;", 1);
        Script.refuses(range, "j250;", 3);
        Script.refuses(range, "j25;", 1);
        Script.refuses(range, "c0 444;", 5);
        Script.refuses(range, "c0 44;", 3);
    }

    private static void ranges() {
        String words = quote("Such a byte is also: the first digit of a register above 3 or of a target above 24;");
        for (int register = 0; register < 100; register++) {
            for (String before : new String[] {"a", "s ", "c", "d", "z", "n  "}) {
                inRange(words, before, register, " 1;", register <= 3);
            }
            inRange(words, "c0 ", register, ";", register <= 3);
            inRange(words, "d3  ", register, " ;", register <= 3);
        }
        for (int target = 0; target < 100; target++) {
            for (String before : new String[] {"j", "j  ", "z0 ", "n0  "}) {
                inRange(words, before, target, ";", target <= 24);
            }
        }
        for (int constant = 0; constant < 100; constant++) {
            inRange(words, "a0 ", constant, ";", true);
            inRange(words, "s0 -", constant, ";", true);
        }
        Script.refuses(words + " at the end of the text", "a4", 1);
        Script.refuses(words + " at the end of the text", "j25", 1);
        Script.refuses(words + " at the end of the text", "c0 04", 3);
        Script.refuses(words + " at the end of the text", "j  25 ", 3);
    }

    /** The number as it is and, if it has one digit, with a 0 in front. */
    private static void inRange(String words, String before, int number, String behind, boolean right) {
        String[] forms = number < 10 ? new String[] {"" + number, "0" + number} : new String[] {"" + number};
        for (String form : forms) {
            if (right) {
                Script.accepts(words, before + form + behind, 1);
            } else {
                Script.refuses(words, before + form + behind, before.length());
            }
        }
    }

    private static void surplus() {
        String words = quote("the letter of a 25th instruction.");
        Script.accepts(words, "h;".repeat(24) + "  ", 24);
        for (String last : new String[] {"h;", "h", "j0;", "a0 1;", "a4 1;", "z", "h;h;"}) {
            Script.refuses(words, "h;".repeat(24) + last, 48);
            Script.refuses(words, "h;".repeat(24) + "  " + last, 50);
        }
        Script.refuses(words, "h;".repeat(75), 48);
        Script.refuses(words, "h;".repeat(23) + "a9 1;h;", 47);
        Script.of(words + " counts anew at each assemble").program("h;".repeat(24)).due("assemble() = 24; assemble() = 24; append(104) = 49; assemble() = -58; opcode(23) = 7");
    }
}
