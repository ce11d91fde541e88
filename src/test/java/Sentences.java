import java.io.IOException;
import java.util.ArrayList;
import java.util.LinkedHashSet;
import java.util.List;
import java.util.Set;

/**
 * Scripts that each hold a sentence of the document, which they quote, whole or by the part that
 * they are about. At the end every sentence must have been held by at least one of them.
 */
final class Sentences {
    private final Script script = new Script();
    private final Set<String> known;
    private final Set<String> unheld;
    private int misquoted = 0;

    Sentences() throws IOException {
        known = Document.sentences();
        unheld = new LinkedHashSet<>(known);
    }

    /** The edge says which case of the sentence the script is about. */
    void holds(String place, String quote, String edge, String... parts) {
        markHeld(place, quote);
        script.due(place + ", '" + quote + "': " + edge, parts);
    }

    void close() {
        for (String sentence : unheld) {
            System.out.println("no test holds: " + sentence);
        }
        System.out.println(known.size() + " sentences, " + unheld.size() + " without a test, "
                + misquoted + " misquoted");
        if (misquoted > 0 || !unheld.isEmpty()) {
            System.exit(1);
        }
        script.close();
    }

    private void markHeld(String place, String quote) {
        List<String> meant = new ArrayList<>();
        for (String sentence : known) {
            if (sentence.startsWith(place + ": ") && sentence.indexOf(quote, place.length() + 2) >= 0) {
                meant.add(sentence);
            }
        }
        if (meant.size() != 1) {
            System.out.println("stands " + meant.size() + " times in the document: " + place + ": " + quote);
            misquoted++;
        }
        unheld.removeAll(meant);
    }
}
