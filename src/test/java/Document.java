import java.io.IOException;
import java.nio.file.Files;
import java.nio.file.Path;
import java.util.LinkedHashSet;
import java.util.Set;

/**
 * The sentences of the document that say what the program does, each behind its place: 'Use',
 * 'Terms', or the method whose promise it stands in; without the signs that mark code, and without
 * the face of a method ahead of what the method does.
 */
final class Document {
    private static final Path FILE = Path.of("../shared/DOC.md");
    private static final String END_OF_SENTENCE = "(?<=\\.)\\s+|(?<=\\.\\))\\s+";

    private final Set<String> sentences = new LinkedHashSet<>();
    private String place = "";
    private String paragraph = "";

    private Document() {
    }

    static Set<String> sentences() throws IOException {
        Document document = new Document();
        for (String line : Files.readAllLines(FILE)) {
            document.take(line.trim());
        }
        document.endParagraph();
        return document.sentences;
    }

    private void take(String line) {
        // Two groups of terms have a plain line as their heading, right ahead of their text.
        boolean isPlainHeading = line.equals("Time, flats, leases") || line.equals("Meters, heat");
        if (line.isEmpty() || line.startsWith("#") || line.startsWith("- ") || isPlainHeading) {
            endParagraph();
        }
        if (line.startsWith("## ")) {
            place = placeOf(line);
        } else if (!line.startsWith("#") && !isPlainHeading) {
            paragraph = (paragraph + " " + line).trim();
        }
    }

    private void endParagraph() {
        int faceEnd = paragraph.startsWith("`") ? paragraph.indexOf("`: ") + 3 : 0;
        int begin = paragraph.startsWith("- ") ? 2 : faceEnd;
        String text = paragraph.substring(begin).replace("`", "");
        paragraph = "";
        for (String sentence : text.split(END_OF_SENTENCE)) {
            if (!place.isEmpty() && isOfTheProgram(sentence)) {
                sentences.add(place + ": " + sentence);
            }
        }
    }

    private static String placeOf(String heading) {
        switch (heading) {
            case "## What it is":
                return "Use";
            case "## Terms":
                return "Terms";
            default:
                return heading.startsWith("## Promise ") ? heading.substring(heading.indexOf(": ") + 2) : "";
        }
    }

    /** Where the interface has which comment is nothing that a call could show. */
    private static boolean isOfTheProgram(String sentence) {
        return !sentence.isEmpty() && !sentence.startsWith("Ahead of the calls");
    }
}
