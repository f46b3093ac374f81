import com.sun.management.ThreadMXBean;
import java.io.IOException;
import java.lang.management.ManagementFactory;
import java.lang.reflect.Constructor;
import java.lang.reflect.Field;
import java.lang.reflect.Method;
import java.lang.reflect.Modifier;
import java.nio.file.Files;
import java.nio.file.Path;
import java.util.Arrays;
import java.util.Map;
import java.util.Set;
import java.util.TreeMap;
import java.util.TreeSet;
import java.util.regex.Matcher;
import java.util.regex.Pattern;

/** What LANGUAGE.md asks and can be seen from outside: the face, the words used, the objects made. */
public final class LanguageTest {
    private static final String[] FORBIDDEN = {
        "\\bimport\\b", "\\bpackage\\b", "->", "::", "\\btry\\b", "\\bcatch\\b", "\\bthrow\\b", "\\bfinally\\b",
        "\\bsynchronized\\b", "\\bassert\\b", "\\bFloat\\.", "\\bDouble\\.", "\\bSystem\\.(?!arraycopy\\b)",
        "\\bMath\\.(?!min\\b|max\\b)", "\\bstatic \\{", "\\bstatic (?!final\\b)\\w+(\\[\\])? \\w+ *[=;]",
        "\\bequals\\b", "\\bhashCode\\b", "\\btoString\\b", "\\bThread\\b", "\\bRandom\\b", "/ *\\w*\\[", "%",
        // Rule 12: a constructor that is given nothing hands out nothing of the object that is being made.
        "\\bnew [A-Z]\\w*\\((?!\\))"};

    public static void main(String[] args) throws IOException {
        String root = args.length > 0 ? args[0] : ".";
        String source = Files.readString(Path.of(root, "src", "main", "java", "BudgetMeter.java"));
        face(Files.readString(Path.of(root, "..", "shared", "DOC.md")));
        noOtherMember();
        namesOfPrivateMethods();
        nestedClasses();
        words(source.replaceAll("(?s)/\\*.*?\\*/", "").replaceAll("//[^\n]*", ""));
        lengths(source);
        depths(source.replaceAll("(?s)/\\*.*?\\*/", "").replaceAll("//[^\n]*", ""));
        noObjects();
        Script.report();
    }

    private static Set<String> documented(String doc) {
        Set<String> names = new TreeSet<>();
        String face = doc.substring(doc.indexOf("```java"), doc.indexOf("## Description"));
        Matcher line = Pattern.compile("public (?!final class)(.*?);").matcher(face);
        while (line.find()) {
            names.add(line.group(1).replaceAll("int \\w+(?=[,)])", "int").replaceAll(" = .*", ""));
        }
        return names;
    }

    private static void face(String doc) {
        Set<String> have = new TreeSet<>();
        for (Field field : BudgetMeter.class.getFields()) {
            have.add("static final " + field.getType() + " " + field.getName());
        }
        for (Constructor<?> made : BudgetMeter.class.getConstructors()) {
            have.add("BudgetMeter" + arguments(made.getParameterTypes()));
        }
        for (Method method : BudgetMeter.class.getDeclaredMethods()) {
            if (Modifier.isPublic(method.getModifiers())) {
                have.add(method.getReturnType() + " " + method.getName() + arguments(method.getParameterTypes()));
            }
        }
        Set<String> want = documented(doc);
        Script.check("the face of the document " + want + " beside " + have, have.equals(want) ? 1 : 0, 1);
        Script.check("the members of the face", want.size(), 30);
        Script.check("OUT_OF_RANGE", BudgetMeter.OUT_OF_RANGE, -2);
        Script.check("FULL", BudgetMeter.FULL, -3);
        Script.check("NOTHING_SAVED", BudgetMeter.NOTHING_SAVED, -4);
        Script.check("NONE", BudgetMeter.NONE, -1);
        Script.check("public and final", BudgetMeter.class.getModifiers(), Modifier.PUBLIC | Modifier.FINAL);
    }

    private static String arguments(Class<?>[] types) {
        return Arrays.toString(types).replace('[', '(').replace(']', ')');
    }

    private static boolean shown(int modifiers) {
        return !Modifier.isPrivate(modifiers) && !Modifier.isPublic(modifiers);
    }

    private static void noOtherMember() {
        for (Field field : BudgetMeter.class.getDeclaredFields()) {
            Script.check("rule 1: field " + field.getName(), shown(field.getModifiers()) ? 1 : 0, 0);
        }
        for (Method method : BudgetMeter.class.getDeclaredMethods()) {
            Script.check("rule 1: method " + method.getName(), shown(method.getModifiers()) ? 1 : 0, 0);
        }
    }

    private static void namesOfPrivateMethods() {
        Set<String> names = new TreeSet<>();
        for (Method method : BudgetMeter.class.getMethods()) {
            names.add(method.getName());
        }
        for (Method method : BudgetMeter.class.getDeclaredMethods()) {
            boolean hidden = !Modifier.isPublic(method.getModifiers());
            Script.check("rule 1: " + method.getName(), hidden && names.contains(method.getName()) ? 1 : 0, 0);
        }
        for (Class<?> inside : BudgetMeter.class.getDeclaredClasses()) {
            for (Method method : inside.getDeclaredMethods()) {
                Script.check("rule 1: " + inside + method.getName(), names.contains(method.getName()) ? 1 : 0, 0);
            }
        }
    }

    private static void nestedClasses() {
        Class<?>[] inside = BudgetMeter.class.getDeclaredClasses();
        Script.check("rule 11: some twelve classes", inside.length <= 12 ? 1 : 0, 1);
        for (Class<?> one : inside) {
            Script.check("rule 2: static " + one, Modifier.isStatic(one.getModifiers()) ? 1 : 0, 1);
            Script.check("rule 11: fields of " + one, one.getDeclaredFields().length <= 20 ? 1 : 0, 1);
        }
    }

    private static void words(String code) {
        for (String word : FORBIDDEN) {
            Matcher found = Pattern.compile(word).matcher(code);
            Script.check("LANGUAGE.md: " + word + " in the class", found.find() ? 1 : 0, 0);
        }
    }

    private static void lengths(String source) {
        int start = 0;
        int number = 0;
        for (String line : source.split("\n")) {
            number++;
            if (line.matches(" {4}( {4})?(\\w.*)?\\w+\\(.*\\) \\{")) {
                start = number;
            }
            if (line.matches(" {4}( {4})?\\}") && start > 0) {
                Script.check("rule 11: lines of the method at " + start, number - start < 60 ? 1 : 0, 1);
                start = 0;
            }
        }
    }

    /** Methods of one name count as one, so the depth that is found is never too small; a method on its own way is a recursion. */
    private static void depths(String code) {
        Map<String, Set<String>> calls = new TreeMap<>();
        Matcher method = Pattern.compile("(?ms)^( {4}| {8})(?:(?:public|private|static) )*(?:[\\w\\[\\]]+ )?(\\w+)\\(([^)]*)\\) \\{\n(.*?)^\\1\\}").matcher(code);
        while (method.find()) {
            Set<String> called = calls.computeIfAbsent(method.group(2), name -> new TreeSet<>());
            Pattern.compile("\\b\\w+(?=\\()").matcher(method.group(4)).results().forEach(found -> called.add(found.group()));
            Script.check("rule 11: parameters of " + method.group(2), method.group(3).split(",").length <= 7 ? 1 : 0, 1);
        }
        Script.check("the methods that were found", calls.size() > 70 ? 1 : 0, 1);
        for (String name : calls.keySet()) {
            Script.check("rule 11: calls go at most eight deep from " + name, depth(name, calls, 1) <= 8 ? 1 : 0, 1);
        }
    }

    private static int depth(String name, Map<String, Set<String>> calls, int above) {
        int deepest = above;
        for (String next : calls.getOrDefault(name, Set.of())) {
            if (calls.containsKey(next) && above < 20) {
                deepest = Math.max(deepest, depth(next, calls, above + 1));
            }
        }
        return deepest;
    }

    /** All calls share one room, so no call may make an object. */
    private static void noObjects() {
        ThreadMXBean threads = (ThreadMXBean) ManagementFactory.getThreadMXBean();
        BudgetMeter[] meters = new BudgetMeter[40];
        for (int i = 0; i < meters.length; i++) {
            meters[i] = new BudgetMeter();
        }
        everyCall(meters, 0, 9);
        long before = threads.getCurrentThreadAllocatedBytes();
        everyCall(meters, 9, 18);
        long made = threads.getCurrentThreadAllocatedBytes() - before;
        Script.check("bytes made by 360 rounds of all calls: " + made, made < 4096 ? 1 : 0, 1);
    }

    private static void everyCall(BudgetMeter[] meters, int from, int to) {
        long sum = 0;
        for (BudgetMeter meter : meters) {
            sum += rounds(meter, from, to);
        }
        Script.check("a sum that keeps the calls alive", sum == 0 ? 0 : 1, 1);
    }

    /** 18 rounds of 27 calls are 486: no object answers more than 512. */
    private static long rounds(BudgetMeter meter, int from, int to) {
        long sum = 0;
        for (int i = from; i < to; i++) {
            sum += meter.clearText() + meter.append('j') + meter.append('0') + meter.append(';') + meter.assemble();
            sum += meter.setCost(i % 9, 3) + meter.opcode(i % 3) + meter.blocks() + meter.blockOf(0) + meter.successors(0);
            sum += meter.blockCost(0) + meter.chainHead(0) + meter.chainCost(i % 3) + meter.reachableBlocks();
            sum += meter.greatestCost() + meter.leastCost() + meter.run(i % 4, 500) + meter.steps() + meter.remaining();
            sum += meter.charges() + meter.register(i % 5) + meter.stoppedAt() + meter.chargeRateBits();
            sum += meter.neededBudget() + meter.undo() + meter.errorCount(-i % 5) + meter.digest();
        }
        return sum;
    }
}
