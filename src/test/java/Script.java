import java.lang.reflect.InvocationTargetException;
import java.util.regex.Matcher;
import java.util.regex.Pattern;

/** A run of calls on a new object, each with the answer that is due. */
final class Script {
    private static final Pattern CALL = Pattern.compile("(\\w+)\\(([^)]*)\\)");
    /** What an object answers to later calls is free, so no test may look at it. */
    private static final int MOST_CALLS = 512;
    private static final Pattern ROW = Pattern.compile("(\\w+\\([^)]*\\))\\s*=\\s*(-?\\d+)");

    private static int checked = 0;
    private static int wrong = 0;

    private final String name;
    private final BudgetMeter meter = new BudgetMeter();
    private int calls = 0;

    private Script(String name) {
        this.name = name;
    }

    static Script of(String name) {
        return new Script(name);
    }

    /** Puts the text in place of the one before; what the calls answer is not looked at. */
    Script text(String text) {
        answer("clearText()");
        for (char sign : text.toCharArray()) {
            answer("append(" + (int) sign + ")");
        }
        return this;
    }

    /** The text is put, and assembled without an error. */
    Script program(String text) {
        text(text);
        expect(text, answer("assemble()") >= 0 ? 1 : 0, 1);
        return this;
    }

    /** A text that is right: so many instructions, and the text stays. */
    static void accepts(String name, String text, int count) {
        of(name + ": " + text).text(text).due("assemble()", count).due("clearText()", text.length());
    }

    /** A text with its first error there: no program, no saved state and no counted error, and the text stays. */
    static void refuses(String name, String text, int position) {
        of(name + ": " + text).text(text).due("assemble()", -10 - position)
            .due("blocks() = 0; errorCount(-2) = 0; errorCount(-3) = 0; errorCount(-4) = 0; undo() = -4")
            .due("clearText()", text.length());
    }

    /** Every "call(arguments) = answer" in the rows is made and looked at. */
    Script due(String rows) {
        Matcher row = ROW.matcher(rows);
        int found = 0;
        while (row.find()) {
            expect(row.group(1), answer(row.group(1)), Long.parseLong(row.group(2)));
            found++;
        }
        if (found == 0) {
            expect("no row in " + rows, 0, 1);
        }
        return this;
    }

    Script due(String call, long want) {
        expect(call, answer(call), want);
        return this;
    }

    Script times(int count, String call) {
        for (int i = 0; i < count; i++) {
            answer(call);
        }
        return this;
    }

    long answer(String call) {
        Matcher parts = CALL.matcher(call);
        if (!parts.matches()) {
            throw new IllegalArgumentException(call);
        }
        calls++;
        if (calls > MOST_CALLS) {
            throw new IllegalStateException(name + ": more than " + MOST_CALLS + " calls on one object");
        }
        String[] words = parts.group(2).isBlank() ? new String[0] : parts.group(2).split(",");
        Class<?>[] types = new Class<?>[words.length];
        Object[] values = new Object[words.length];
        for (int i = 0; i < words.length; i++) {
            types[i] = int.class;
            values[i] = Integer.valueOf(words[i].trim());
        }
        try {
            Object got = BudgetMeter.class.getMethod(parts.group(1), types).invoke(meter, values);
            return ((Number) got).longValue();
        } catch (InvocationTargetException thrown) {
            throw new IllegalStateException(name + ": " + call + " threw", thrown.getCause());
        } catch (ReflectiveOperationException missing) {
            throw new IllegalStateException(name + ": " + call, missing);
        }
    }

    private void expect(String call, long got, long want) {
        check(name + ": " + call, got, want);
    }

    static void check(String what, long got, long want) {
        checked++;
        if (got != want) {
            wrong++;
            System.out.println(what + " answered " + got + ", due is " + want);
        }
    }

    static void report() {
        System.out.println(checked + " answers looked at, " + wrong + " not as due");
        if (wrong != 0 || checked == 0) {
            System.exit(1);
        }
    }
}
