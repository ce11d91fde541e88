import java.io.IOException;
import java.lang.reflect.Method;
import java.nio.file.Files;
import java.nio.file.Path;
import java.util.ArrayList;
import java.util.LinkedHashSet;
import java.util.List;
import java.util.Set;
import java.util.TreeSet;
import java.util.regex.Matcher;
import java.util.regex.Pattern;

/**
 * README.md tells of the class what the document says, and its example, compiled and run as it
 * stands there, prints the answers that it shows.
 */
public final class ReadmeTest {
    private static final Path README = Path.of("README.md");
    private static final Path FOLDER = Path.of("build/readme");
    private static final String ANSWER_SIGN = "; // ";
    private static final Pattern CALL = Pattern.compile("office\\.(\\w+)\\(([0-9A-Za-z., ]*)\\)");

    private int wrong = 0;

    private ReadmeTest() {
    }

    public static void main(String[] args) throws IOException, InterruptedException {
        ReadmeTest test = new ReadmeTest();
        List<String> readme = Files.readAllLines(README);
        List<String> example = exampleOf(readme);
        int rows = test.holdCalls(new LinkedHashSet<>(readme));
        int answers = test.holdAnswers(example);
        test.holdReference(example);
        test.holdEachMethodShown(example);
        System.out.println(rows + " calls and " + answers + " answers of README.md, " + test.wrong + " wrong");
        if (test.wrong > 0) {
            System.exit(1);
        }
    }

    private void fail(String what) {
        System.out.println("README.md: " + what);
        wrong++;
    }

    private int holdCalls(Set<String> readme) throws IOException {
        List<String> rows = DocumentCalls.rows();
        for (String row : rows) {
            if (!readme.contains(row)) {
                fail("the document asks for the row " + row);
            }
        }
        return rows.size();
    }

    private int holdAnswers(List<String> example) throws IOException, InterruptedException {
        List<String> printed = printedBy(example);
        int shown = 0;
        for (String line : example) {
            if (line.contains(ANSWER_SIGN)) {
                String answered = shown < printed.size() ? printed.get(shown) : "nothing";
                if (!answered.equals(answerShown(line))) {
                    fail("the example answered " + answered + ": " + line.trim());
                }
                shown++;
            }
        }
        if (shown == 0 || printed.size() != shown) {
            fail("the example shows " + shown + " answers, but prints " + printed.size());
        }
        return shown;
    }

    /** The reference is another reading of the document than the class itself. */
    private void holdReference(List<String> example) {
        Office reference = new Reference();
        for (String line : example) {
            Matcher found = CALL.matcher(line);
            if (found.find() && line.contains(ANSWER_SIGN)) {
                String arguments = withoutNames(found.group(2)).replace(",", " ");
                String due = Calls.answer(reference, found.group(1) + " " + arguments);
                if (!due.equals(answerShown(line))) {
                    fail("the reference answers " + due + ": " + line.trim());
                }
            }
        }
    }

    private void holdEachMethodShown(List<String> example) {
        Set<String> missing = new TreeSet<>();
        for (Method method : Office.class.getDeclaredMethods()) {
            missing.add(method.getName());
        }
        for (String line : example) {
            Matcher found = CALL.matcher(line);
            while (found.find()) {
                missing.remove(found.group(1));
            }
        }
        if (!missing.isEmpty()) {
            fail("the example does not call " + missing);
        }
    }

    private static String answerShown(String line) {
        return line.substring(line.indexOf(ANSWER_SIGN) + ANSWER_SIGN.length()).trim();
    }

    private static String withoutNames(String arguments) {
        return arguments.replace("RentStream.URGENT", "0")
                .replace("RentStream.SOON", "1")
                .replace("RentStream.LATER", "2");
    }

    /** The block of Java that stands in README.md. */
    private static List<String> exampleOf(List<String> readme) {
        int begin = readme.indexOf("```java") + 1;
        int length = readme.subList(begin, readme.size()).indexOf("```");
        return readme.subList(begin, begin + Math.max(0, length));
    }

    private static List<String> printedBy(List<String> example) throws IOException, InterruptedException {
        Files.createDirectories(FOLDER);
        Path file = FOLDER.resolve("Example.java");
        Files.write(file, example);
        String classes = FOLDER.resolve("out").toString();
        List<String> said = outputOf("javac", "-d", classes, "src/main/java/RentStream.java", file.toString());
        return said.isEmpty() ? outputOf("java", "-cp", classes, "Example") : said;
    }

    /** Without what goes to the error stream, where Java may tell of its own settings. */
    private static List<String> outputOf(String... command) throws IOException, InterruptedException {
        Process process = new ProcessBuilder(command).redirectError(ProcessBuilder.Redirect.INHERIT).start();
        List<String> lines = new ArrayList<>(new String(process.getInputStream().readAllBytes()).lines().toList());
        int code = process.waitFor();
        if (code != 0) {
            lines.add(command[0] + " ended with " + code);
        }
        return lines;
    }
}
