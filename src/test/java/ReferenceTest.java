/** Long runs of mixed calls, right and wrong ones, with each answer held against the reference. */
public final class ReferenceTest {
    private static final int RUNS = 1500;
    private static final int CALLS = 512;
    private static final int CALLS_OF_A_TEXT = 70;
    private static final int MOST_TOLD = 5;

    private long seed;
    private int month;
    private int leases;
    private int flats;
    private int repairs;
    private int told;

    private ReferenceTest() {
    }

    public static void main(String[] args) {
        ReferenceTest test = new ReferenceTest();
        for (int run = 0; run < RUNS && test.told < MOST_TOLD; run++) {
            test.run(run);
        }
        System.out.println(test.told == 0 ? RUNS + " runs agree" : test.told + " runs differ");
        if (test.told != 0) {
            System.exit(1);
        }
    }

    private void run(int run) {
        seed = run * 7919L + 17;
        month = 0;
        leases = 0;
        flats = 0;
        repairs = 0;
        Program program = new Program();
        Office reference = new Reference();
        StringBuilder calls = new StringBuilder();
        // Some runs hurry to the last day, others stay in a few months.
        int hurry = below(4);
        while (program.calls() < CALLS) {
            String text = nextCall(program.calls(), hurry);
            if (text.startsWith("text ") && program.calls() + CALLS_OF_A_TEXT > CALLS) {
                text = "owner";
            }
            String want = Calls.answer(reference, text);
            String got = Calls.answer(program, text);
            calls.append(text).append(" = ").append(got).append('\n');
            if (!got.equals(want)) {
                System.out.println("run " + run + ":\n" + calls + "due is " + want);
                told++;
                return;
            }
            remember(text, want);
        }
    }

    private void remember(String call, String answer) {
        if (!Character.isDigit(answer.charAt(0))) {
            return;
        }
        if (call.startsWith("flat ")) {
            flats++;
        } else if (call.startsWith("lease ")) {
            leases++;
        } else if (call.startsWith("report ")) {
            repairs++;
        } else if (call.startsWith("pass ")) {
            month = Integer.parseInt(answer) / 30;
        }
    }

    private String nextCall(int call, int hurry) {
        if (call < 12 && below(2) == 0) {
            return below(2) == 0 ? "flat " + (1 + below(9)) : "lease " + someFlat() + " " + someRent();
        }
        if (below(8) < hurry) {
            return "pass " + somePass();
        }
        return below(2) == 0 ? change() : look();
    }

    private String change() {
        switch (below(16)) {
            case 0: return "flat " + edgy(0, 10);
            case 1: return "lease " + someFlat() + " " + someRent();
            case 2: return below(3) == 0 ? "end " + someLease() : "planOf " + someLease();
            case 3: return "index " + (below(2) == 0 ? edgy(49, 201) : 80 + below(80));
            case 4:
            case 5: return "read " + someFlat() + " " + someShown();
            case 6: return "heat " + (below(4) == 0 ? edgy(0, 1000001) : 1 + below(30000));
            case 7: return "report " + someFlat() + " " + edgy(-1, 3);
            case 8: return "mend " + edgy(-1, repairs);
            case 9:
            case 10: return "income " + someLease() + " " + someMonth() + " " + someIncome();
            case 11:
            case 12: return "pay " + someLease() + " " + somePayment();
            case 13:
            case 14: return "plan " + someLease() + " " + edgy(0, 13);
            default: return "pass " + somePass();
        }
    }

    private String look() {
        switch (below(10)) {
            case 0: return "owes " + someLease();
            case 1: return "owesAnew " + someLease();
            case 2: return "desk " + someLease();
            case 3: return "owner";
            case 4: return "bill " + someLease() + " " + someMonth() + " " + edgy(-1, 4);
            case 5: return "line " + someLease() + " " + someMonth() + " " + edgy(-1, 70);
            case 6: return below(6) == 0 ? "text " + someLease() + " " + someMonth() : "owesAnew " + someLease();
            case 7: return "use " + someFlat() + " " + someMonth();
            case 8: return "points " + someFlat();
            default: return "planOf " + someLease();
        }
    }

    private int someFlat() {
        return below(12) == 0 ? edgy(-1, flats) : below(flats);
    }

    private int someLease() {
        return below(12) == 0 ? edgy(-1, leases) : below(leases);
    }

    private int someMonth() {
        int far = below(3) == 0 ? month : Math.min(month, 4);
        return below(12) == 0 ? edgy(-1, month + 1) : month - below(far + 1);
    }

    private int someRent() {
        return below(4) == 0 ? edgy(-1, 500001) : below(150000);
    }

    private int someShown() {
        return below(20) == 0 ? edgy(-1, 1000001) : month * 150 + below(1500);
    }

    private int someIncome() {
        return below(8) == 0 ? edgy(-1, 1000001) : below(400000);
    }

    private int somePayment() {
        return below(8) == 0 ? edgy(0, 1000001) : 1 + below(100000);
    }

    private int somePass() {
        switch (below(6)) {
            case 0: return 30;
            case 1: return 60;
            case 2: return edgy(0, 61);
            default: return 1 + below(35);
        }
    }

    /** Mostly from the one to the other, both of them wrong, with these and their neighbours often. */
    private int edgy(int wrongBelow, int wrongAbove) {
        switch (below(12)) {
            case 0: return wrongBelow;
            case 1: return wrongAbove;
            case 2: return wrongBelow + 1;
            case 3: return wrongAbove - 1;
            case 4: return below(10) == 0 ? Integer.MIN_VALUE : wrongBelow + 1;
            case 5: return below(10) == 0 ? Integer.MAX_VALUE : wrongAbove - 1;
            default: return wrongBelow + below(wrongAbove - wrongBelow + 1);
        }
    }

    /** The same numbers in every run of the tests. */
    private int below(int bound) {
        seed = seed * 6364136223846793005L + 1442695040888963407L;
        return bound <= 0 ? 0 : (int) Math.floorMod(seed >>> 33, (long) bound);
    }
}
