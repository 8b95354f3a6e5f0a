import java.io.IOException;
import java.nio.file.Files;
import java.nio.file.Path;

/**
 * The document, sentence by sentence. Each test begins with the sentence that it asks for, in the
 * document's words; a sentence that no test begins with is a failure, too.
 */
final class Sentences {
    private static final Path DOCUMENT = Path.of("../shared/DOC.md");

    private final String text;
    private final boolean[] quoted;
    private final Due due = new Due();
    private String latest = "the document";
    private int count;
    private int askedBefore = -1;

    Sentences() throws IOException {
        text = sentencesOf(Files.readString(DOCUMENT));
        quoted = new boolean[text.length()];
    }

    private static String sentencesOf(String document) {
        int calls = document.indexOf("An object is used");
        int face = document.indexOf("## The public face");
        int terms = document.indexOf("## Terms");
        int end = document.indexOf("## Not promised");
        String all = document.substring(calls, face) + document.substring(terms, end);
        return all.replaceAll("(?m)^(##|```).*$", "").replaceAll("======== \\d", "").replaceAll("\\s+", " ");
    }

    /** What is asked from here on is asked for this sentence. */
    void sentence(String quote) {
        endOfSentence();
        int place = text.indexOf(quote);
        due.holds("the document has, once: " + quote, place >= 0 && text.indexOf(quote, place + 1) < 0);
        for (int i = 0; i < quote.length() && place >= 0; i++) {
            quoted[place + i] = true;
        }
        latest = quote;
        askedBefore = due.asked();
        count++;
    }

    private void endOfSentence() {
        due.holds("something is asked for '" + latest + "'", due.asked() > askedBefore);
    }

    void due(String call, long got, long want) {
        due.due("'" + latest + "': " + call, got, want);
    }

    private void everySentenceIsQuoted() {
        StringBuilder left = new StringBuilder();
        for (int i = 0; i < quoted.length; i++) {
            left.append(quoted[i] ? '\n' : text.charAt(i));
        }
        for (String part : left.toString().split("\n+")) {
            due.holds("a test begins with: " + part, part.isBlank());
        }
    }

    void end() {
        endOfSentence();
        everySentenceIsQuoted();
        System.out.print(count + " sentences, ");
        due.end();
    }
}
