import java.io.IOException;
import java.nio.file.Files;
import java.nio.file.Path;
import java.util.ArrayList;
import java.util.LinkedHashMap;
import java.util.List;
import java.util.Map;
import java.util.regex.Matcher;
import java.util.regex.Pattern;

/**
 * The document, and which of its words the tests have quoted: a test names the sentence that it
 * looks at, and at the end no sentence may be left that no test has named.
 */
final class Document {
    static final String WHAT_IT_IS = "What it is";
    static final String DESCRIPTION = "Description";
    static final String CONSTANTS = "The constants";

    private static final Pattern PROMISE = Pattern.compile("## Promise (\\d+): ([^#]*)");
    /** A promise begins with its name, its signature and, at some, the name of a group. */
    private static final Pattern HEADING = Pattern.compile("^(A new object|\\w+) `([^`]*)`( ---- (program|control flow|runs|state))?");
    private static final Pattern TITLES = Pattern.compile(
        "(^| )(Machine|Costs|Basic blocks|Chains|Metering modes|Undo|Errors|Source text)\\. (?=[A-Z])");

    /** The part's text; what has been quoted is overwritten in the second one. */
    private static final Map<String, String> WHOLE = new LinkedHashMap<>();
    private static final Map<String, String> LEFT = new LinkedHashMap<>();
    private static final Map<String, String> SIGNATURES = new LinkedHashMap<>();
    private static final List<String> FACE = new ArrayList<>();

    private Document() {
    }

    static void read(String root) throws IOException {
        String text = Files.readString(Path.of(root, "..", "shared", "DOC.md")).replaceAll("\\s+", " ");
        put(WHAT_IT_IS, between(text, "## What it is", "## The public face"));
        readFace(between(text, "public final class BudgetMeter {", "}"));
        put(DESCRIPTION, TITLES.matcher(between(text, "## Description", "Examples:")).replaceAll(" "));
        put(CONSTANTS, between(text, "The constants:", "The constructor and the methods follow"));
        Matcher promise = PROMISE.matcher(between(text, "a promise each: the signature, then what it does.", "## Not promised"));
        while (promise.find()) {
            readPromise(promise.group(1), HEADING.matcher(promise.group(2)));
        }
        Script.check("the parts of the document", WHOLE.size(), 29);
    }

    private static void readPromise(String number, Matcher heading) {
        boolean found = heading.find();
        SIGNATURES.put(number + ": " + (found ? heading.group(1) : "no name"), found ? heading.group(2) : "no signature");
        put("Promise " + number, heading.replaceFirst(""));
    }

    private static void readFace(String lines) {
        for (String line : lines.split(";")) {
            if (line.contains("(")) {
                FACE.add(line.trim().replaceFirst("^public ", ""));
            }
        }
    }

    /** The constructor and the methods of the public face, as they stand there. */
    static List<String> face() {
        return FACE;
    }

    /** From the number and the name of a promise to the signature that stands under it. */
    static Map<String, String> signatures() {
        return SIGNATURES;
    }

    /** The name of a test: the sentence, which must stand just once in its part of the document. */
    static String quote(String part, String words) {
        String whole = WHOLE.getOrDefault(part, "");
        int at = whole.indexOf(words);
        boolean once = at >= 0 && whole.indexOf(words, at + 1) < 0;
        Script.check(part + " has once: " + words, once ? 1 : 0, 1);
        if (once) {
            String left = LEFT.get(part);
            LEFT.put(part, left.substring(0, at) + "_".repeat(words.length()) + left.substring(at + words.length()));
        }
        return part + ", \"" + words + "\"";
    }

    static void checkAllQuoted() {
        for (Map.Entry<String, String> part : LEFT.entrySet()) {
            String left = part.getValue().replaceAll("_+", " .. ");
            boolean words = left.chars().anyMatch(Character::isLetterOrDigit);
            Script.check(part.getKey() + " has words that no test quotes: " + left, words ? 1 : 0, 0);
        }
    }

    private static void put(String part, String text) {
        WHOLE.put(part, text);
        LEFT.put(part, text);
    }

    private static String between(String text, String from, String to) {
        int start = text.indexOf(from);
        int end = text.indexOf(to, Math.max(start, 0));
        return start < 0 || end < 0 ? "" : text.substring(start + from.length(), end);
    }
}
