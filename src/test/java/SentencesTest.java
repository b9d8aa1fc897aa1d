import java.io.IOException;

/** Each sentence of the document that names a boundary, with the sentence's own words. */
public final class SentencesTest {
    public static void main(String[] args) throws IOException {
        Checks checks = new Checks();
        Document document = new Document();
        new FramesSentences(checks, document).test();
        new TapeSentences(checks, document).test();
        new ReaderSentences(checks, document).test();
        new WheelSentences(checks, document).test();
        new ChaserSentences(checks, document).test();
        new UndoSentences(checks, document).test();
        allAreNamed(checks, document);
        checks.end();
    }

    private static void allAreNamed(Checks checks, Document document) {
        nothingIsLeft(checks, document, "Terms");
        for (int i = 1; i <= 27; i++) {
            nothingIsLeft(checks, document, "Promise " + i);
        }
    }

    private static void nothingIsLeft(Checks checks, Document document, String section) {
        String rest = document.unnamed(section);
        checks.due("no test names, in " + section + ": " + rest, rest.length(), 0);
    }
}
