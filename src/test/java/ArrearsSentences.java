/** The sentences about payments and plans, with promises 11, 12 and 22. */
final class ArrearsSentences {
    /** 200 are owed at the end of the first month, and 200 more at each later one. */
    private static final String ONE_DEBTOR = """
        flat 1 = 0
        lease 0 1000 = 0
        pass 60 = 60
        """;
    private static final String THREE_DEBTORS = Script.repeat(3, """
        flat 1 = #
        lease # 1000 = #
        """) + """
        pass 60 = 60
        """;

    private ArrearsSentences() {
    }

    static void all(Sentences s) {
        payments(s);
        parts(s);
        bounds(s);
        boundOfNothing(s);
        roundedParts(s);
        withoutTheBill(s);
        leaseIsOver(s);
        pay(s);
        plan(s);
        planRefused(s);
        planRunsOrNothingOwed(s);
        planOf(s);
    }

    private static void payments(Sentences s) {
        s.holds("Terms", "who pays more than is owed, owes less than nothing",
            "one cent less, as much, one more", THREE_DEBTORS, """
            pay 0 199 = 1
            pay 1 200 = 0
            pay 2 201 = -1
            owes 0 = 1
            owes 1 = 0
            owes 2 = -1
            owner = 2400
            pass 30 = 90
            owes 0 = 201
            owes 1 = 200
            owes 2 = 199
            """);
    }

    private static void parts(Sentences s) {
        s.holds("Terms", "A plan parts what a tenant owes into some parts, each that divided by their "
                + "number, rounded up.",
            "just below, on and above a whole number of cents",
            Script.repeat(8, """
            flat 1 = #
            lease # 1000 = #
            """), """
            pass 60 = 60
            pay 0 189 = 11
            pay 1 188 = 12
            pay 2 187 = 13
            pay 3 199 = 1
            plan 0 12 = 1
            plan 1 12 = 1
            plan 2 12 = 2
            plan 3 1 = 1
            plan 4 1 = 200
            plan 5 8 = 25
            plan 6 11 = 19
            plan 7 3 = 67
            """);
        s.holds("Terms", "A plan parts what a tenant owes into some parts",
            "what is owed then, not what was owed ahead of a payment or an income", ONE_DEBTOR, """
            pay 0 100 = 100
            income 0 1 1000 = 100
            pay 0 1 = 199
            plan 0 2 = 100
            owes 0 = 199
            """);
    }

    private static void bounds(Sentences s) {
        s.holds("Terms", "the plan is BROKEN, if the tenant owes more, without the bill of this month, "
                + "than its bound, that is what was owed at first less k parts",
            "one cent above the bound, on it, and one below; at the first end", THREE_DEBTORS, """
            plan 0 2 = 100
            plan 1 2 = 100
            plan 2 2 = 100
            pay 0 99 = 101
            pay 1 100 = 100
            pay 2 101 = 99
            pass 29 = 89
            planOf 0 = 1
            pass 1 = 90
            planOf 0 = 2
            planOf 1 = 1
            planOf 2 = 1
            """);
        s.holds("Terms", "At the k-th end of a month behind that",
            "at the second and the third end, where the bound is 0", THREE_DEBTORS, """
            plan 0 3 = 67
            plan 1 3 = 67
            plan 2 3 = 67
            pay 0 67 = 133
            pay 1 67 = 133
            pay 2 67 = 133
            pass 30 = 90
            planOf 0 = 1
            owes 0 = 333
            pay 0 266 = 67
            pay 1 267 = 66
            pay 2 268 = 65
            pass 30 = 120
            planOf 0 = 2
            planOf 1 = 1
            planOf 2 = 1
            pay 1 266 = 0
            pay 2 264 = 1
            pass 30 = 150
            planOf 0 = 2
            planOf 1 = 3
            planOf 2 = 2
            """);
        s.holds("Terms", "At the k-th end of a month behind that",
            "of plans made on the first and on the last day of a month, and of two ends at once", THREE_DEBTORS, """
            plan 0 2 = 100
            pay 0 100 = 100
            plan 2 2 = 100
            pay 2 400 = -200
            pass 29 = 89
            plan 1 2 = 100
            pay 1 99 = 101
            planOf 0 = 1
            planOf 1 = 1
            pass 60 = 149
            planOf 0 = 2
            planOf 1 = 2
            planOf 2 = 3
            """);
    }

    private static void boundOfNothing(Sentences s) {
        s.holds("Terms", "otherwise it is DONE, if the bound is 0",
            "one cent owed, nothing, and less than nothing", THREE_DEBTORS, """
            plan 0 1 = 200
            plan 1 1 = 200
            plan 2 1 = 200
            pay 0 199 = 1
            pay 1 200 = 0
            pay 2 201 = -1
            planOf 1 = 1
            pass 29 = 89
            planOf 1 = 1
            planOf 2 = 1
            pass 1 = 90
            planOf 0 = 2
            planOf 1 = 3
            planOf 2 = 3
            """);
        s.holds("Terms", "otherwise it is DONE, if the bound is 0",
            "not as long as the bound is above, though nothing is owed", ONE_DEBTOR, """
            plan 0 2 = 100
            pay 0 1000 = -800
            pass 30 = 90
            planOf 0 = 1
            pass 30 = 120
            planOf 0 = 3
            pass 30 = 150
            planOf 0 = 3
            """);
        s.holds("Terms", "the plan is BROKEN",
            "it stays so, whatever is paid, and so does one that is DONE, whatever is owed", """
            flat 1 = 0
            flat 1 = 1
            lease 0 1000 = 0
            lease 1 1000 = 1
            pass 60 = 60
            plan 0 2 = 100
            plan 1 1 = 200
            pay 1 200 = 0
            pass 30 = 90
            planOf 0 = 2
            planOf 1 = 3
            pay 0 1000 = -600
            pass 60 = 150
            planOf 0 = 2
            planOf 1 = 3
            owes 1 = 600
            """);
    }

    private static void roundedParts(Sentences s) {
        s.holds("Terms", "0 at least",
            "parts that are together more than what was owed: the end ahead, and the one with the bound 0", """
            flat 1 = 0
            flat 1 = 1
            lease 0 1000 = 0
            lease 1 1000 = 1
            pass 30 = 30
            end 0 = 1
            end 1 = 1
            pass 30 = 60
            pay 0 195 = 5
            pay 1 187 = 13
            plan 0 12 = 1
            plan 1 12 = 2
            pay 0 5 = 0
            pay 1 13 = 0
            pass 60 = 120
            pass 60 = 180
            planOf 0 = 1
            pass 30 = 210
            planOf 0 = 3
            planOf 1 = 1
            pass 30 = 240
            planOf 1 = 1
            pass 30 = 270
            planOf 1 = 3
            """);
        s.holds("Terms", "0 at least", "twelve parts", """
            flat 1 = 0
            lease 0 1000 = 0
            pass 30 = 30
            end 0 = 1
            pass 30 = 60
            plan 0 12 = 17
            pay 0 200 = 0
            """, Script.counting(5, "pass 60", 120, 60), """
            pass 30 = 390
            planOf 0 = 1
            pass 29 = 419
            planOf 0 = 1
            pass 1 = 420
            planOf 0 = 3
            """);
    }

    private static void withoutTheBill(Sentences s) {
        s.holds("Terms", "without the bill of this month",
            "but with those of the months ahead, and with what is paid in it", ONE_DEBTOR, """
            plan 0 2 = 100
            pass 29 = 89
            heat 1000 = 1000
            pay 0 100 = 100
            pass 1 = 90
            planOf 0 = 1
            owes 0 = 1300
            pay 0 1299 = 1
            pass 30 = 120
            planOf 0 = 2
            """);
        s.holds("Terms", "if the tenant owes more", "by an income that is told late, and less by another", """
            flat 1 = 0
            flat 1 = 1
            lease 0 1000 = 0
            lease 1 1000 = 1
            income 1 0 2000 = 0
            pass 60 = 60
            plan 0 1 = 200
            plan 1 1 = 600
            pay 0 200 = 0
            pay 1 200 = 400
            income 0 1 670 = 1
            income 1 1 0 = -400
            pass 30 = 90
            planOf 0 = 2
            planOf 1 = 3
            """);
    }

    private static void leaseIsOver(Sentences s) {
        s.holds("Terms", "(If the lease does not run any more, the bill of this month is nothing.)",
            "the end of its last month, and of the next one", """
            flat 1 = 0
            flat 1 = 1
            lease 0 1000 = 0
            lease 1 1000 = 1
            pass 60 = 60
            end 0 = 2
            end 1 = 2
            plan 0 2 = 100
            plan 1 2 = 100
            pay 0 100 = 100
            pay 1 100 = 100
            pass 30 = 90
            planOf 0 = 1
            owes 0 = 300
            pay 0 300 = 0
            pay 1 299 = 1
            pass 29 = 119
            planOf 0 = 1
            pass 1 = 120
            owes 0 = 0
            planOf 0 = 3
            planOf 1 = 2
            """);
        s.holds("Terms", "(If the lease does not run any more, the bill of this month is nothing.)",
            "a plan that is made when it is over", ONE_DEBTOR, """
            end 0 = 2
            pass 60 = 120
            lease 0 700 = 1
            owes 0 = 400
            plan 0 2 = 200
            pay 0 200 = 200
            pass 30 = 150
            planOf 0 = 1
            planOf 1 = 0
            owes 0 = 200
            pass 30 = 180
            planOf 0 = 2
            owes 0 = 200
            """);
    }

    private static void pay(Sentences s) {
        s.holds("pay", "A tenant pays.",
            "ahead of the first month, behind the last one, and one that never lived there", """
            flat 1 = 0
            lease 0 1000 = 0
            end 0 = 0
            lease 0 1000 = 1
            pay 0 5 = -5
            pay 1 5 = -5
            pass 30 = 30
            end 1 = 1
            pass 60 = 90
            pay 1 5 = 190
            pay 0 5 = -10
            """);
        s.holds("Terms", "A tenant pays the owner", "not the desk", ONE_DEBTOR, """
            owner = 600
            pay 0 1 = 199
            owner = 601
            desk 0 = -800
            """);
        s.holds("pay", "lease: a lease", "the first and the last", """
            flat 1 = 0
            flat 1 = 1
            lease 0 1000 = 0
            lease 1 1000 = 1
            pay -1 5 = IOOBE
            pay 2 5 = IOOBE
            pay 0 5 = -5
            pay 1 6 = -6
            """);
        s.holds("pay", "cents: 1 to 1000000", "at both ends and beyond", """
            flat 1 = 0
            lease 0 1000 = 0
            pay 0 0 = IAE
            pay 0 1 = -1
            pay 0 2 = -3
            pay 0 999999 = -1000002
            pay 0 1000000 = -2000002
            pay 0 1000001 = IAE
            owes 0 = -2000002
            """);
        s.holds("pay", "Returns the account of the tenant then.", "as low as 500 payments make it", """
            flat 1 = 0
            lease 0 1000 = 0
            """, payments(500), """
            owes 0 = -500000000
            owesAnew 0 = -500000000
            owner = 500000000
            """);
        s.holds("pay", "Throws IndexOutOfBoundsException if there is no such lease",
            "ahead of the other line", """
            pay 0 1 = IOOBE
            pay 0 0 = IOOBE
            flat 1 = 0
            pay 0 1 = IOOBE
            lease 0 1000 = 0
            pay LEAST 1 = IOOBE
            pay MOST 1 = IOOBE
            pay -1 0 = IOOBE
            pay 1 1000001 = IOOBE
            owner = 0
            """);
        s.holds("pay", "Throws IllegalArgumentException if cents is out of range",
            "and nothing is paid", ONE_DEBTOR, """
            pay 0 LEAST = IAE
            pay 0 -1 = IAE
            pay 0 0 = IAE
            pay 0 1000001 = IAE
            pay 0 MOST = IAE
            owes 0 = 200
            owesAnew 0 = 200
            owner = 600
            """);
    }

    /** Each of the most that can be paid at once. */
    private static String payments(int times) {
        return Script.counting(times, "pay 0 1000000", -1000000, -1000000);
    }

    private static void plan(Sentences s) {
        s.holds("plan", "Makes a plan.", "it posts nothing", ONE_DEBTOR, """
            plan 0 5 = 40
            owes 0 = 200
            owesAnew 0 = 200
            desk 0 = -800
            owner = 600
            planOf 0 = 1
            """);
        s.holds("plan", "lease: a lease", "the first and the last", """
            flat 1 = 0
            flat 1 = 1
            lease 0 1000 = 0
            lease 1 1000 = 1
            pass 60 = 60
            plan -1 1 = IOOBE
            plan 2 1 = IOOBE
            plan 1 1 = 200
            plan 0 1 = 200
            """);
        s.holds("plan", "parts: 1 to 12", "at both ends and beyond", THREE_DEBTORS, """
            plan 0 0 = IAE
            plan 0 13 = IAE
            plan 0 1 = 200
            plan 1 12 = 17
            plan 2 2 = 100
            """);
        s.holds("plan", "Returns what a part is.", "of much", """
            flat 1 = 0
            lease 0 0 = 0
            pass 30 = 30
            """, Script.counting(10, "heat 1000000", 1000000, 1000000), """
            pass 30 = 60
            plan 0 12 = 833334
            """);
    }

    private static void planRefused(Sentences s) {
        s.holds("plan", "Throws IndexOutOfBoundsException if there is no such lease",
            "ahead of both other lines", """
            plan 0 1 = IOOBE
            plan 0 0 = IOOBE
            flat 1 = 0
            plan 0 1 = IOOBE
            lease 0 1000 = 0
            plan 1 1 = IOOBE
            pass 60 = 60
            plan 0 2 = 100
            plan LEAST 1 = IOOBE
            plan MOST 1 = IOOBE
            plan -1 0 = IOOBE
            plan 1 13 = IOOBE
            plan 1 2 = IOOBE
            """);
        s.holds("plan", "Throws IllegalArgumentException if parts is out of range",
            "ahead of the last line, when nothing is owed and when a plan runs", ONE_DEBTOR, """
            plan 0 LEAST = IAE
            plan 0 -1 = IAE
            plan 0 MOST = IAE
            planOf 0 = 0
            plan 0 2 = 100
            plan 0 0 = IAE
            plan 0 13 = IAE
            plan 0 1 = ISE
            pay 0 400 = -200
            pass 60 = 120
            planOf 0 = 3
            pay 0 200 = 0
            plan 0 0 = IAE
            plan 0 13 = IAE
            plan 0 12 = ISE
            planOf 0 = 3
            """);
    }

    private static void planRunsOrNothingOwed(Sentences s) {
        s.holds("plan", "Throws IllegalStateException if a plan of it RUNS, or nothing is owed",
            "1 owed, nothing, and less than nothing", THREE_DEBTORS, """
            pay 0 199 = 1
            pay 1 200 = 0
            pay 2 201 = -1
            plan 1 1 = ISE
            plan 2 1 = ISE
            plan 1 12 = ISE
            plan 0 1 = 1
            planOf 0 = 1
            planOf 1 = 0
            planOf 2 = 0
            pay 2 1 = -2
            pass 30 = 90
            plan 2 1 = 198
            """);
        s.holds("plan", "Throws IllegalStateException if a plan of it RUNS",
            "it RUNS, is BROKEN, is DONE; that of another lease does not count", """
            flat 1 = 0
            flat 1 = 1
            lease 0 1000 = 0
            lease 1 1000 = 1
            plan 0 1 = ISE
            pass 60 = 60
            plan 0 2 = 100
            plan 0 2 = ISE
            plan 1 3 = 67
            pass 29 = 89
            plan 0 12 = ISE
            pass 1 = 90
            planOf 0 = 2
            plan 0 1 = 400
            planOf 0 = 1
            plan 0 1 = ISE
            pay 0 400 = 0
            pass 30 = 120
            planOf 0 = 3
            plan 0 4 = 50
            planOf 0 = 1
            pass 30 = 150
            planOf 0 = 2
            """);
        s.holds("plan", "Throws IllegalStateException if a plan of it RUNS",
            "a refused one leaves the bounds of the one that runs", ONE_DEBTOR, """
            plan 0 2 = 100
            pass 15 = 75
            pay 0 50 = 150
            plan 0 1 = ISE
            plan 0 12 = ISE
            pay 0 50 = 100
            pass 15 = 90
            planOf 0 = 1
            plan 0 12 = ISE
            pay 0 300 = 0
            pass 30 = 120
            planOf 0 = 3
            """);
    }

    private static void planOf(Sentences s) {
        s.holds("planOf", "Returns what the latest plan of a lease is.",
            "a new one counts its ends from 1 on again", ONE_DEBTOR, """
            plan 0 4 = 50
            pay 0 50 = 150
            pass 30 = 90
            pass 30 = 120
            planOf 0 = 2
            owes 0 = 550
            plan 0 2 = 275
            planOf 0 = 1
            pay 0 275 = 275
            pass 30 = 150
            planOf 0 = 1
            """);
        s.holds("planOf", "lease: a lease", "the first and the last", """
            flat 1 = 0
            flat 1 = 1
            lease 0 1000 = 0
            lease 1 1000 = 1
            planOf -1 = IOOBE
            planOf 0 = 0
            planOf 1 = 0
            planOf 2 = IOOBE
            """);
        s.holds("planOf", "Returns RUNS to DONE; 0 if there was none.", "each of them", THREE_DEBTORS, """
            planOf 0 = 0
            plan 1 1 = 200
            plan 2 1 = 200
            planOf 0 = 0
            planOf 1 = 1
            planOf 2 = 1
            pay 2 200 = 0
            pass 30 = 90
            planOf 0 = 0
            planOf 1 = 2
            planOf 2 = 3
            """);
        s.holds("Terms", "What plans are.", "1 to 3", THREE_DEBTORS, """
            plan 0 1 = 200
            plan 1 2 = 100
            plan 2 1 = 200
            pay 1 100 = 100
            pay 2 200 = 0
            pass 30 = 90
            planOf 1 = 1
            planOf 0 = 2
            planOf 2 = 3
            """);
        s.holds("planOf", "Throws IndexOutOfBoundsException if there is no such lease",
            "just and far beyond", """
            planOf 0 = IOOBE
            flat 1 = 0
            planOf 0 = IOOBE
            lease 0 1000 = 0
            planOf 0 = 0
            planOf LEAST = IOOBE
            planOf -1 = IOOBE
            planOf 1 = IOOBE
            planOf MOST = IOOBE
            """);
    }
}
