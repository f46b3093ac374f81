import java.io.IOException;
import java.nio.file.Files;
import java.nio.file.Path;
import java.util.regex.Matcher;
import java.util.regex.Pattern;

/** The five examples of the document, read from the document itself. */
public final class ExamplesTest {
    public static void main(String[] args) throws IOException {
        String root = args.length > 0 ? args[0] : ".";
        String doc = Files.readString(Path.of(root, "..", "shared", "DOC.md"));
        int from = doc.indexOf("\nExamples:");
        int to = doc.indexOf("\nThe constants:");
        Matcher example = Pattern.compile("(?ms)^(\\d)\\. ([^:]*):(.*?)\\.$").matcher(doc.substring(from, to));
        int found = 0;
        while (example.find()) {
            found++;
            Script.of("example " + example.group(1)).due(example.group(3).replace('\n', ' '));
        }
        Script.check("the number of examples", found, 5);
        Script.report();
    }
}
