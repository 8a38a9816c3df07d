import java.nio.file.Path;

/** Each sentence of the document that names a boundary case, promise by promise, has its test, and holds. */
public final class SentencesTest {
    public static void main(String[] args) throws Exception {
        Sentences d = new Sentences(Path.of("../shared/DOC.md"));
        new WholeSentences(d).tell();
        new VersionSentences(d).tell();
        new CounterSentences(d).tell();
        new OwedSentences(d).tell();
        new SheetSentences(d).tell();
        d.end();
    }
}
