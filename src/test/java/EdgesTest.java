import java.io.IOException;

/** Every sentence of the document, its edges above all: too small, too large, empty, full, refused. */
public final class EdgesTest {
    public static void main(String[] args) throws IOException {
        Sentences doc = new Sentences();
        Asking[] parts = {new TownSentences(doc), new TriedSentences(doc), new TextSentences(doc),
            new ThingSentences(doc), new PromiseSentences(doc)};
        for (Asking part : parts) {
            part.askAll();
        }
        doc.end();
    }
}
