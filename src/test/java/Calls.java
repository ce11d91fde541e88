/** Makes calls that are written as texts: the method and its arguments, parted by blanks. */
final class Calls {
    private static final int LONGEST_LINE = 90;

    private Calls() {
    }

    /** The answer as a text; IOOBE, IAE or ISE for the exceptions of the document. */
    static String answer(Office office, String call) {
        String[] words = call.trim().split(" +");
        int[] args = new int[words.length - 1];
        for (int i = 0; i < args.length; i++) {
            args[i] = number(words[i + 1]);
        }
        return answer(office, words[0], args);
    }

    static String answer(Office office, String method, int[] args) {
        try {
            return method.equals("text") ? text(office, args) : String.valueOf(make(office, method, args));
        } catch (RuntimeException thrown) {
            return nameOf(thrown);
        }
    }

    private static int number(String word) {
        switch (word) {
            case "MOST":
                return Integer.MAX_VALUE;
            case "LEAST":
                return Integer.MIN_VALUE;
            default:
                return Integer.parseInt(word);
        }
    }

    /**
     * The class itself counts: one below it, as the machine throws them, is another; and so is one
     * that the library threw, because the program has to look before it calls.
     */
    private static String nameOf(RuntimeException thrown) {
        Class<?> kind = thrown.getClass();
        StackTraceElement[] places = thrown.getStackTrace();
        String thrower = places.length == 0 ? "?" : places[0].getClassName();
        if (!thrower.equals("RentStream") && !thrower.equals("Reference")) {
            return kind.getName() + " thrown by " + thrower;
        }
        if (kind == IndexOutOfBoundsException.class) {
            return "IOOBE";
        }
        if (kind == IllegalArgumentException.class) {
            return "IAE";
        }
        if (kind == IllegalStateException.class) {
            return "ISE";
        }
        return kind.getName();
    }

    /** A whole line; it ends where two blanks stand together, which are left out. */
    private static String text(Office office, int[] args) {
        StringBuilder signs = new StringBuilder();
        for (int place = 0; place < LONGEST_LINE && signs.indexOf("  ") < 0; place++) {
            signs.append(office.line(args[0], args[1], place));
        }
        return "'" + signs.toString().stripTrailing() + "'";
    }

    private static long make(Office office, String method, int[] a) {
        switch (method) {
            case "flat": return office.flat(a[0]);
            case "lease": return office.lease(a[0], a[1]);
            case "end": return office.end(a[0]);
            case "index": return office.index(a[0]);
            case "read": return office.read(a[0], a[1]);
            case "heat": return office.heat(a[0]);
            case "report": return office.report(a[0], a[1]);
            case "mend": return office.mend(a[0]);
            case "income": return office.income(a[0], a[1], a[2]);
            case "pay": return office.pay(a[0], a[1]);
            case "plan": return office.plan(a[0], a[1]);
            case "pass": return office.pass(a[0]);
            case "owes": return office.owes(a[0]);
            case "owesAnew": return office.owesAnew(a[0]);
            case "desk": return office.desk(a[0]);
            case "owner": return office.owner();
            case "bill": return office.bill(a[0], a[1], a[2]);
            case "line": return office.line(a[0], a[1], a[2]);
            case "use": return office.use(a[0], a[1]);
            case "points": return office.points(a[0]);
            case "planOf": return office.planOf(a[0]);
            default: throw new AssertionError("no such call: " + method);
        }
    }
}
