import java.io.IOException;
import java.io.UncheckedIOException;
import java.nio.file.Files;
import java.nio.file.Path;

/** Answers sentence by sentence: each sentence is quoted as it stands in the document, with the answers for its edges behind it. */
final class Edges {
    private final Due due;
    private final String doc = plainDoc();
    private String sentence = "";
    private int answers = 1;

    Edges(String name) {
        due = new Due(name);
    }

    /** The document with one blank between its words, wherever its lines break. */
    static String plainDoc() {
        try {
            return Files.readString(Path.of("../shared/DOC.md")).replaceAll("\\s+", " ");
        } catch (IOException e) {
            throw new UncheckedIOException(e);
        }
    }

    void says(String quote) {
        leaveSentence();
        sentence = quote;
        answers = 0;
        due.is("the document says '" + quote + "'", doc.contains(quote) ? 1 : 0, 1);
    }

    void is(String call, long got, long want) {
        answers++;
        due.is("'" + sentence + "': " + call, got, want);
    }

    void is(String call, String got, String want) {
        answers++;
        due.is("'" + sentence + "': " + call, got, want);
    }

    void end() {
        leaveSentence();
        due.end();
    }

    /** A sentence that is quoted without an answer behind it is not tested. */
    private void leaveSentence() {
        due.is("answers for '" + sentence + "'", answers > 0 ? 1 : 0, 1);
    }
}
