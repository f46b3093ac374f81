import java.io.IOException;

/** Each sentence of the document has a test of its own, named by its words; at the end none may be left without one. */
public final class SentencesTest {
    public static void main(String[] args) throws IOException {
        Document.read(args.length > 0 ? args[0] : ".");
        FaceSentences.check();
        MachineSentences.check();
        FlowSentences.check();
        MeterSentences.check();
        StateSentences.check();
        TextSentences.check();
        ProgramPromiseSentences.check();
        RunPromiseSentences.check();
        Document.checkAllQuoted();
        Script.report();
    }
}
