import java.io.IOException;
import java.nio.file.Files;
import java.nio.file.Path;
import java.util.ArrayList;
import java.util.List;

/**
 * The calls that the document promises, each as a row of a table: its face, what it does, takes and
 * returns, and what it throws; in the document's words.
 */
final class DocumentCalls {
    private static final Path FILE = Path.of("../shared/DOC.md");

    private final List<String> rows = new ArrayList<>();
    private boolean isInPromise = false;
    private String face = "";
    private String does = "";
    private final List<String> takes = new ArrayList<>();
    private final List<String> thrown = new ArrayList<>();

    private DocumentCalls() {
    }

    static List<String> rows() throws IOException {
        DocumentCalls calls = new DocumentCalls();
        for (String line : Files.readAllLines(FILE)) {
            calls.take(line.trim());
        }
        calls.endCall();
        return calls.rows;
    }

    private void take(String line) {
        if (line.startsWith("## ")) {
            endCall();
            isInPromise = line.startsWith("## Promise ");
        } else if (isInPromise && line.startsWith("- ")) {
            takes.add(line.substring(2));
        } else if (isInPromise && line.startsWith("Throws ")) {
            thrown.add(line.substring("Throws ".length()));
        } else if (isInPromise && line.startsWith("`")) {
            int end = line.indexOf("`: ");
            face = line.substring(1, end).replaceAll(" throws .*", "");
            does = line.substring(end + 3);
        } else if (isInPromise && !line.isEmpty()) {
            endTakes();
            does = does + " " + line;
        }
    }

    private void endTakes() {
        if (!takes.isEmpty()) {
            does = does + " " + String.join("; ", takes) + ".";
            takes.clear();
        }
    }

    private void endCall() {
        endTakes();
        if (!face.isEmpty()) {
            String throwing = thrown.isEmpty() ? "nothing" : String.join("; ", thrown);
            rows.add("| `" + face + "` | " + does + " | " + throwing + " |");
        }
        face = "";
        thrown.clear();
    }
}
