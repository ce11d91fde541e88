import java.util.ArrayList;
import java.util.List;

/**
 * Runs calls with the answers that are due, written as lines 'call = answer'. Each script is run on
 * the program, on the program without the calls that throw (which must make no difference), and on
 * the reference.
 */
final class Script {
    private static final int MOST_CALLS = 512;

    private int wrong = 0;
    private int scripts = 0;

    void due(String title, String... parts) {
        List<String> lines = lines(parts);
        scripts++;
        Program program = new Program();
        run(title, program, lines);
        if (program.calls() > MOST_CALLS) {
            System.out.println(title + ": " + program.calls() + " calls are more than the document speaks of");
            wrong++;
        }
        run(title + ", without the calls that throw", new Program(), withoutThrows(lines));
        run(title + ", reference", new Reference(), lines);
    }

    void close() {
        System.out.println(scripts + " scripts, " + wrong + " wrong answers");
        if (wrong != 0) {
            System.exit(1);
        }
    }

    /** The text as often as this, with # standing for 0, 1, 2 and so on. */
    static String repeat(int times, String text) {
        StringBuilder all = new StringBuilder();
        for (int i = 0; i < times; i++) {
            all.append(text.replace("#", String.valueOf(i))).append('\n');
        }
        return all.toString();
    }

    /** The same call as often as this, with answers that go up by steps. */
    static String counting(int times, String call, int first, int step) {
        StringBuilder all = new StringBuilder();
        for (int i = 0; i < times; i++) {
            all.append(call).append(" = ").append(first + i * step).append('\n');
        }
        return all.toString();
    }

    private static List<String> lines(String[] parts) {
        List<String> lines = new ArrayList<>();
        for (String part : parts) {
            for (String line : part.split("\n")) {
                if (!line.isBlank()) {
                    lines.add(line.trim());
                }
            }
        }
        return lines;
    }

    private static List<String> withoutThrows(List<String> lines) {
        List<String> kept = new ArrayList<>(lines);
        kept.removeIf(line -> line.endsWith("= IOOBE") || line.endsWith("= IAE") || line.endsWith("= ISE"));
        return kept;
    }

    private void run(String title, Office office, List<String> lines) {
        for (int i = 0; i < lines.size(); i++) {
            String line = lines.get(i);
            int sign = line.indexOf(" = ");
            String call = line.substring(0, sign);
            String want = line.substring(sign + 3).trim();
            String got = Calls.answer(office, call);
            if (!got.equals(want)) {
                System.out.println(title + ": call " + (i + 1) + ", " + call + ", answered " + got + ", due is " + want);
                wrong++;
            }
        }
    }
}
