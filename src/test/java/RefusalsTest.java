import java.util.ArrayList;
import java.util.LinkedHashMap;
import java.util.List;
import java.util.Map;

/**
 * 'The first line of a method's throws clause that applies decides; a call that throws changes
 * nothing.' In some states every method is called with arguments at and around all edges. Each
 * answer is held against the reference; and after each call that throws, later calls must answer as
 * they do to a twin that was not called.
 */
public final class RefusalsTest {
    private static final int[] FLATS = {-1, 0, 1, 2, 7, 8, Integer.MIN_VALUE, Integer.MAX_VALUE};
    private static final int[] LEASES = {-1, 0, 1, 2, 11, 12, Integer.MIN_VALUE, Integer.MAX_VALUE};
    private static final int[] MONTHS = {-1, 0, 1, 2, 3, 119, 120, 121, Integer.MIN_VALUE, Integer.MAX_VALUE};

    private static final String HALFWAY = """
        flat 1
        flat 2
        lease 0 1000
        lease 1 2000
        report 0 0
        read 0 30
        heat 7
        pass 45
        index 150
        income 0 1 1000
        heat 9
        pass 15
        plan 0 2
        pay 0 50
        report 1 1
        heat 100
        pass 10
        index 80
        """;
    private static final String SETTLED = """
        flat 1
        flat 2
        lease 0 1000
        lease 1 2000
        report 0 0
        report 1 1
        pass 60
        end 0
        mend 0
        lease 0 500
        plan 0 1
        pay 0 200
        pay 1 400
        pass 30
        pay 0 200
        read 0 1000000
        """;

    private final List<String> ahead = lookAhead();
    private final List<String> goOn = goOnAndLook();
    private int refused = 0;
    private int wrong = 0;

    private RefusalsTest() {
    }

    public static void main(String[] args) {
        RefusalsTest test = new RefusalsTest();
        for (Map.Entry<String, List<String>> state : states().entrySet()) {
            test.hold(state.getKey(), state.getValue());
        }
        System.out.println(test.refused + " calls were refused, " + test.wrong + " of all were wrong");
        if (test.wrong > 0) {
            System.exit(1);
        }
    }

    private static Map<String, List<String>> states() {
        Map<String, List<String>> states = new LinkedHashMap<>();
        states.put("new", List.of());
        states.put("halfway", lines(HALFWAY));
        states.put("settled", lines(SETTLED));
        states.put("full", full());
        states.put("near the last day", on(lines(HALFWAY), 58, "pass 60"));
        states.put("on the last day", on(on(on(lines(HALFWAY), 58, "pass 60"), 1, "pass 49"), 1, "pass 1"));
        return states;
    }

    private static List<String> full() {
        List<String> calls = new ArrayList<>();
        for (int flat = 0; flat < 8; flat++) {
            calls.add("flat 3");
        }
        for (int lease = 0; lease < 12; lease++) {
            calls.add("lease " + lease % 8 + " 1000");
            calls.add("end " + (lease < 8 ? lease : 12));
        }
        for (int repair = 0; repair < 60; repair++) {
            calls.add("report 0 2");
        }
        calls.add("pass 30");
        return on(calls, 10, "heat 1000000");
    }

    private static List<String> on(List<String> calls, int times, String call) {
        List<String> longer = new ArrayList<>(calls);
        for (int i = 0; i < times; i++) {
            longer.add(call);
        }
        return longer;
    }

    private static List<String> lines(String text) {
        return List.of(text.strip().split("\\s*\n\\s*"));
    }

    // ---- the calls that may be refused

    private static List<String> pool() {
        List<String> calls = new ArrayList<>();
        put(calls, "flat", around(1, 9));
        put(calls, "lease", FLATS, around(0, 500000));
        put(calls, "end", LEASES);
        put(calls, "index", around(50, 200));
        put(calls, "read", FLATS, around(0, 1000000), new int[] {29, 30, 31, 999999});
        put(calls, "heat", around(1, 1000000));
        put(calls, "report", FLATS, around(0, 2));
        put(calls, "mend", around(0, 59), new int[] {1, 2});
        put(calls, "income", LEASES, MONTHS, around(0, 1000000));
        put(calls, "pay", LEASES, around(1, 1000000));
        put(calls, "plan", LEASES, around(1, 12));
        put(calls, "pass", around(1, 60), new int[] {2, 49, 50, 51});
        put(calls, "owes", LEASES);
        put(calls, "owesAnew", LEASES);
        put(calls, "desk", LEASES);
        put(calls, "planOf", LEASES);
        put(calls, "bill", LEASES, MONTHS, around(0, 3));
        put(calls, "line", LEASES, MONTHS, around(0, 70));
        put(calls, "use", FLATS, MONTHS);
        put(calls, "points", FLATS);
        return calls;
    }

    private static int[] around(int least, int most) {
        return new int[] {Integer.MIN_VALUE, least - 1, least, least + 1, most, most + 1, Integer.MAX_VALUE};
    }

    /** A row of numbers for each argument; rows beyond these are more numbers for the last one. */
    private static void put(List<String> calls, String method, int[]... rows) {
        List<String> begun = new ArrayList<>(List.of(method));
        int places = places(method);
        for (int place = 0; place < places; place++) {
            List<String> longer = new ArrayList<>();
            for (String call : begun) {
                for (int row = place; row < (place == places - 1 ? rows.length : place + 1); row++) {
                    for (int number : rows[row]) {
                        longer.add(call + " " + number);
                    }
                }
            }
            begun = longer;
        }
        calls.addAll(begun);
    }

    private static int places(String method) {
        for (java.lang.reflect.Method found : RentStream.class.getMethods()) {
            if (found.getName().equals(method)) {
                return found.getParameterCount();
            }
        }
        throw new AssertionError("no such method: " + method);
    }

    // ---- the calls that look

    private static List<String> look() {
        List<String> calls = new ArrayList<>(List.of("owner", "points 0", "points 1"));
        for (int month = 0; month < 4; month++) {
            calls.add("use 0 " + month);
            calls.add("use 1 " + month);
        }
        for (int lease = 0; lease < 3; lease++) {
            for (String call : List.of("owes ", "owesAnew ", "desk ", "planOf ")) {
                calls.add(call + lease);
            }
            for (int what = 0; what < 4; what++) {
                calls.add("bill " + lease + " 1 " + what);
                calls.add("bill " + lease + " 2 " + what);
                calls.add("bill " + lease + " 3 " + what);
            }
        }
        return calls;
    }

    /** What was told already goes on to work, without anything new that could hide it. */
    private static List<String> lookAhead() {
        List<String> calls = new ArrayList<>(look());
        calls.add("pass 30");
        calls.addAll(look());
        calls.add("pass 10");
        calls.addAll(look());
        return calls;
    }

    private static List<String> goOnAndLook() {
        List<String> calls = new ArrayList<>(lines("""
            flat 1
            heat 1
            index 100
            read 0 31
            read 1 5
            report 0 0
            mend 0
            mend 1
            mend 59
            income 0 0 700
            income 1 1 5
            pay 0 1
            pay 11 1
            plan 0 3
            plan 1 2
            lease 0 7
            end 0
            end 1
            lease 1 9
            flat 2
            """));
        calls.addAll(look());
        calls.add("pass 50");
        calls.addAll(look());
        return calls;
    }

    // ---- the twins

    private void hold(String state, List<String> calls) {
        List<String> aheadDue = answers(calls, null, ahead);
        List<String> goOnDue = answers(calls, null, goOn);
        for (String call : pool()) {
            String want = last(new Reference(), calls, call);
            String got = last(new Program(), calls, call);
            if (!got.equals(want)) {
                tell(state + ": " + call + " answered " + got + ", due is " + want);
            } else if (isRefusal(want)) {
                refused++;
                compare(state, call, aheadDue, answers(calls, call, ahead), ahead);
                compare(state, call, goOnDue, answers(calls, call, goOn), goOn);
            }
        }
    }

    private static boolean isRefusal(String answer) {
        return answer.equals("IOOBE") || answer.equals("IAE") || answer.equals("ISE");
    }

    private static String last(Office office, List<String> calls, String call) {
        for (String earlier : calls) {
            Calls.answer(office, earlier);
        }
        return Calls.answer(office, call);
    }

    /** What the later calls answer; the refused one is left out if it is null. */
    private static List<String> answers(List<String> calls, String refusedCall, List<String> later) {
        Program program = new Program();
        for (String call : calls) {
            Calls.answer(program, call);
        }
        if (refusedCall != null) {
            Calls.answer(program, refusedCall);
        }
        List<String> answers = new ArrayList<>();
        for (String call : later) {
            answers.add(Calls.answer(program, call));
        }
        return answers;
    }

    private void compare(String state, String call, List<String> due, List<String> got, List<String> later) {
        for (int i = 0; i < due.size(); i++) {
            if (!due.get(i).equals(got.get(i))) {
                tell(state + ": behind the refused " + call + ", " + later.get(i) + " answered " + got.get(i)
                        + ", due is " + due.get(i));
                return;
            }
        }
    }

    private void tell(String text) {
        System.out.println(text);
        wrong++;
    }
}
