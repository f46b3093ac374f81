import java.io.File;
import java.io.IOException;
import java.lang.reflect.Field;
import java.lang.reflect.Method;
import java.lang.reflect.Modifier;
import java.net.URL;
import java.net.URLClassLoader;
import java.nio.file.Files;
import java.nio.file.Path;
import java.util.ArrayList;
import java.util.List;
import java.util.Set;
import java.util.TreeSet;
import java.util.regex.Matcher;
import java.util.regex.Pattern;
import javax.tools.ToolProvider;

/**
 * README.md shows Java code with the answer behind each call: the code is compiled as it stands there and run, and the
 * answers are compared.
 */
public final class ReadmeTest {
    private static final Pattern CODE = Pattern.compile("(?s)```java\n(.*?)```");
    /** "meter.call(arguments);   // answer", with or without ": why" behind it. */
    private static final Pattern SHOWN = Pattern.compile("(\\w+\\.\\w+\\(.*\\));\\s+// (-?\\d+|[A-Z_]+)(:.*)?");
    /** What may stand in the code without an answer: new objects, and loops that fill a text. */
    private static final Pattern OTHER = Pattern.compile(
        "BudgetMeter \\w+ = new BudgetMeter\\(\\);|for \\(.*\\) \\{| {4}\\w+\\.append\\(.*\\);|\\}|");

    private record Row(String call, long answer) {
    }

    public static void main(String[] args) throws IOException, ReflectiveOperationException {
        Path root = Path.of(args.length > 0 ? args[0] : ".");
        String page = Files.readString(root.resolve("README.md"));
        List<Row> rows = new ArrayList<>();
        String code = translate(page, rows);
        List<?> answers = run(code);
        Script.check("the calls of README.md that were made", answers.size(), rows.size());
        for (int i = 0; i < Math.min(rows.size(), answers.size()); i++) {
            Script.check("README.md: " + rows.get(i).call(), (Long) answers.get(i), rows.get(i).answer());
        }
        everyName(page, rows);
        instructions(page);
        callsOnlyInCode(CODE.matcher(page).replaceAll(""));
        theTests(root, page);
        Script.report();
    }

    /** Each shown call becomes one that keeps its answer; all else stays as it is. */
    private static String translate(String page, List<Row> rows) throws ReflectiveOperationException {
        StringBuilder code = new StringBuilder();
        Matcher block = CODE.matcher(page);
        while (block.find()) {
            for (String line : block.group(1).split("\n")) {
                Matcher shown = SHOWN.matcher(line);
                if (shown.matches()) {
                    rows.add(new Row(shown.group(1), number(shown.group(2))));
                    code.append("answers.add((long) ").append(shown.group(1)).append(");\n");
                } else {
                    Script.check("README.md: a line without an answer: " + line, OTHER.matcher(line).matches() ? 1 : 0, 1);
                    code.append(line).append('\n');
                }
            }
        }
        return code.toString();
    }

    private static long number(String answer) throws ReflectiveOperationException {
        boolean name = Character.isLetter(answer.charAt(0));
        return name ? BudgetMeter.class.getField(answer).getInt(null) : Long.parseLong(answer);
    }

    private static List<?> run(String code) throws IOException, ReflectiveOperationException {
        Path folder = Files.createTempDirectory("readme");
        Path file = folder.resolve("ReadmeCalls.java");
        Files.writeString(file, "public final class ReadmeCalls {\npublic static java.util.List<Long> answers() {\n"
            + "java.util.List<Long> answers = new java.util.ArrayList<>();\n" + code + "return answers;\n}\n}\n");
        String classes = System.getProperty("java.class.path");
        int wrong = ToolProvider.getSystemJavaCompiler().run(null, null, null, "-cp", classes, "-d", folder.toString(), file.toString());
        Script.check("README.md: the code that it shows is compiled", wrong, 0);
        try (URLClassLoader loader = new URLClassLoader(new URL[] {folder.toUri().toURL()})) {
            return wrong == 0 ? (List<?>) loader.loadClass("ReadmeCalls").getMethod("answers").invoke(null) : List.of();
        } finally {
            for (File left : folder.toFile().listFiles()) {
                left.delete();
            }
            Files.delete(folder);
        }
    }

    private static void everyName(String page, List<Row> rows) {
        Set<String> called = new TreeSet<>();
        for (Row row : rows) {
            called.add(row.call().replaceAll("^\\w+\\.|\\(.*", ""));
        }
        for (Method method : BudgetMeter.class.getDeclaredMethods()) {
            boolean shown = !Modifier.isPublic(method.getModifiers()) || called.contains(method.getName());
            Script.check("README.md shows a call of " + method.getName(), shown ? 1 : 0, 1);
        }
        for (Field constant : BudgetMeter.class.getFields()) {
            Script.check("README.md names " + constant.getName(), page.contains("`" + constant.getName() + "`") ? 1 : 0, 1);
        }
    }

    /** The table of the instructions: each is one instruction with the opcode that stands beside it. */
    private static void instructions(String page) {
        Matcher row = Pattern.compile("(?m)^\\| `(\\w[^`]*;)` \\| (\\d), ").matcher(page);
        int found = 0;
        while (row.find()) {
            String text = row.group(1).charAt(0) + row.group(1).substring(1).replace('r', '1').replace('s', '2').replace('t', '3').replace("k", "-4");
            Script.of("README.md: " + row.group(1)).text(text).due("assemble()", 1).due("opcode(0)", Long.parseLong(row.group(2)));
            found++;
        }
        Script.check("README.md: the instructions in its table", found, 8);
    }

    /** A call outside the code would be one that nobody makes. */
    private static void callsOnlyInCode(String prose) {
        for (Method method : BudgetMeter.class.getDeclaredMethods()) {
            boolean called = Pattern.compile("\\b" + method.getName() + "\\(").matcher(prose).find();
            Script.check("README.md calls " + method.getName() + " outside its code", called ? 1 : 0, 0);
        }
    }

    private static void theTests(Path root, String page) throws IOException {
        Script.check("README.md: the command of the tests", page.contains("```sh\n.ci/run\n```") && Files.isExecutable(root.resolve(".ci/run")) ? 1 : 0, 1);
        Set<String> named = new TreeSet<>();
        Matcher row = Pattern.compile("(?m)^\\| `(\\w+Test)` \\|").matcher(page);
        while (row.find()) {
            named.add(row.group(1));
        }
        Set<String> there = new TreeSet<>();
        for (String file : root.resolve("src/test/java").toFile().list()) {
            if (file.endsWith("Test.java")) {
                there.add(file.replace(".java", ""));
            }
        }
        Script.check("README.md: the tests " + there + " beside the table's " + named, there.equals(named) ? 1 : 0, 1);
    }
}
