/** The sentences about benefits, incomes and the end of a month, with promises 10 and 14 to 18. */
final class BenefitSentences {
    private static final String ONE_LEASE = """
        flat 1 = 0
        lease 0 1000 = 0
        """;

    private BenefitSentences() {
    }

    static void all(Sentences s) {
        incomes(s);
        benefits(s);
        noMoreAndNoLess(s);
        paidAhead(s);
        paidIfAboveNothing(s);
        monthEnds(s);
        madeAnew(s);
        accounts(s);
        greatAccounts(s);
        income(s);
        incomeRefused(s);
        owes(s);
        owesAnew(s);
        desk(s);
        owner(s);
        bill(s);
        billRefused(s);
    }

    private static void incomes(Sentences s) {
        s.holds("Terms", "told for a month, and all later ones up to the next month for which one is told",
            "the months right ahead, on and behind each", ONE_LEASE, """
            pass 60 = 60
            pass 60 = 120
            pass 60 = 180
            income 0 4 2000 = 800
            income 0 2 1000 = 200
            bill 0 1 2 = 800
            bill 0 2 2 = 700
            bill 0 3 2 = 700
            bill 0 4 2 = 400
            bill 0 5 2 = 400
            income 0 3 3000 = 600
            bill 0 2 2 = 700
            bill 0 3 2 = 100
            bill 0 4 2 = 400
            pass 30 = 210
            bill 0 6 2 = 400
            """);
        s.holds("Terms", "(of one month the latest told counts)",
            "more, less, the same, and for another month between", ONE_LEASE, """
            pass 60 = 60
            pass 60 = 120
            income 0 2 1000 = 200
            income 0 2 2000 = 600
            income 0 2 2000 = 0
            income 0 2 1000 = -600
            income 0 1 3000 = 700
            bill 0 1 2 = 100
            bill 0 2 2 = 700
            bill 0 3 2 = 700
            income 0 2 3000 = 1200
            bill 0 2 2 = 100
            """);
        s.holds("Terms", "0 ahead of that", "an income that was told as 0 is told", ONE_LEASE, """
            pass 60 = 60
            pass 60 = 120
            income 0 3 4000 = 800
            bill 0 2 2 = 800
            bill 0 3 2 = 0
            income 0 2 0 = 0
            income 0 1 4000 = 800
            bill 0 1 2 = 0
            bill 0 2 2 = 800
            bill 0 3 2 = 0
            income 0 0 2000 = 0
            owes 0 = 2200
            """);
        s.holds("Terms", "A lease has an income",
            "told ahead of its first month, and of another lease not", """
            flat 1 = 0
            flat 1 = 1
            lease 0 1000 = 0
            lease 1 1000 = 1
            income 0 0 2000 = 0
            pass 60 = 60
            bill 0 1 2 = 400
            bill 1 1 2 = 800
            """);
    }

    private static void benefits(Sentences s) {
        s.holds("Terms", "The benefit for a rent and an income is the rent less (three tenths of the "
                + "income, rounded down)",
            "just below, on and above a cent", """
            flat 1 = 0
            lease 0 10 = 0
            pass 60 = 60
            bill 0 1 2 = 8
            income 0 1 9 = 0
            income 0 1 10 = 1
            bill 0 1 2 = 7
            income 0 1 11 = 0
            income 0 1 13 = 0
            income 0 1 14 = 1
            bill 0 1 2 = 6
            income 0 1 16 = 0
            income 0 1 17 = 1
            bill 0 1 2 = 5
            income 0 1 0 = -3
            bill 0 1 2 = 8
            """);
    }

    private static void noMoreAndNoLess(Sentences s) {
        s.holds("Terms", "but at most eight tenths of the rent, rounded down",
            "rents of 0 to 6, and the income with which the tenths are reached",
            Script.repeat(7, """
            flat 1 = #
            lease # # = #
            """), """
            pass 60 = 60
            bill 0 1 2 = 0
            bill 1 1 2 = 0
            bill 2 1 2 = 1
            bill 3 1 2 = 2
            bill 4 1 2 = 3
            bill 5 1 2 = 4
            bill 6 1 2 = 4
            income 5 1 6 = 0
            income 5 1 7 = 1
            bill 5 1 2 = 3
            income 6 1 9 = 0
            income 6 1 10 = 1
            bill 6 1 2 = 3
            """);
        s.holds("Terms", "but at most eight tenths of the rent, rounded down",
            "of the highest rent, around the income with which they are reached", """
            flat 1 = 0
            lease 0 500000 = 0
            index 200 = 100
            pass 60 = 60
            bill 0 1 2 = 800000
            income 0 1 666666 = 0
            income 0 1 666667 = 0
            income 0 1 666669 = 0
            income 0 1 666670 = 1
            bill 0 1 2 = 799999
            income 0 1 1000000 = 99999
            bill 0 1 2 = 700000
            """);
        s.holds("Terms", "and at least 0", "a benefit of 1, of 0, and one that would be below", """
            flat 1 = 0
            flat 1 = 1
            lease 0 10 = 0
            lease 1 0 = 1
            pass 60 = 60
            income 0 1 33 = 7
            bill 0 1 2 = 1
            income 0 1 34 = 1
            bill 0 1 2 = 0
            income 0 1 37 = 0
            bill 0 1 2 = 0
            income 0 1 1000000 = 0
            bill 0 1 2 = 0
            owes 0 = 10
            income 1 1 4 = 0
            bill 1 1 2 = 0
            owes 1 = 0
            """);
    }

    private static void paidAhead(Sentences s) {
        s.holds("Terms", "As a month begins, the desk pays the owner ahead, for each lease that runs",
            "the day ahead of its first month, its first, its last, and behind it", """
            flat 1 = 0
            flat 1 = 1
            lease 0 1000 = 0
            lease 1 2000 = 1
            end 1 = 0
            pass 29 = 29
            desk 0 = 0
            owner = 0
            pass 1 = 30
            desk 0 = -800
            desk 1 = 0
            owner = 800
            pass 29 = 59
            desk 0 = -800
            pass 1 = 60
            desk 0 = -800
            owner = 600
            end 0 = 2
            pass 30 = 90
            desk 0 = 0
            owner = -400
            pass 30 = 120
            desk 0 = 0
            """);
        s.holds("Terms", "the benefit for its rent and its income",
            "by the index of the month, not lowered, and by the income that holds in it", ONE_LEASE, """
            index 150 = 100
            report 0 0 = 0
            income 0 0 2000 = 0
            pass 30 = 30
            desk 0 = -900
            income 0 1 1000 = 0
            desk 0 = -900
            pass 30 = 60
            bill 0 1 2 = 750
            desk 0 = -1200
            """);
        s.holds("Terms", "and what the desk still owes for it (less what it has paid too much)",
            "something owed still, and something paid too much", ONE_LEASE, """
            income 0 0 4000 = 0
            pass 60 = 60
            desk 0 = 0
            income 0 1 0 = -800
            desk 0 = 800
            pass 30 = 90
            desk 0 = -800
            owner = 400
            income 0 2 1000 = 100
            desk 0 = -900
            pass 30 = 120
            desk 0 = -700
            """);
        s.holds("Terms", "for each lease that runs, the benefit",
            "what is owed for an ended lease is not paid", ONE_LEASE, """
            income 0 0 4000 = 0
            pass 30 = 30
            end 0 = 1
            pass 30 = 60
            income 0 1 0 = -800
            desk 0 = 800
            pass 30 = 90
            desk 0 = 800
            owner = -1000
            """);
    }

    private static void paidIfAboveNothing(Sentences s) {
        s.holds("Terms", "if that is above 0 together", "1 below, 0, and 1 above", """
            flat 1 = 0
            flat 1 = 1
            flat 1 = 2
            lease 0 1000 = 0
            lease 1 1000 = 1
            lease 2 1000 = 2
            pass 28 = 28
            report 0 2 = 0
            report 2 2 = 1
            pass 2 = 30
            income 0 1 2000 = 0
            income 1 1 2000 = 0
            income 2 1 1997 = 0
            owner = 2400
            pass 30 = 60
            bill 0 1 2 = 399
            bill 1 1 2 = 400
            bill 2 1 2 = 400
            desk 0 = -401
            desk 1 = -400
            desk 2 = -401
            mend 0 = 1
            mend 1 = 1
            pass 30 = 90
            desk 0 = -400
            desk 1 = -400
            desk 2 = -401
            """);
    }

    private static void monthEnds(Sentences s) {
        s.holds("Terms", "When a month ends, for each lease that runs, by numbers: its bill is made",
            "the day ahead of the end, and the end", ONE_LEASE, """
            pass 59 = 59
            bill 0 1 0 = -1
            owes 0 = 0
            pass 1 = 60
            bill 0 1 0 = 1000
            owes 0 = 200
            """);
        s.holds("Terms", "by the income as it is told then",
            "told on the first day of the month, on its last, and on the next day", ONE_LEASE, """
            pass 30 = 30
            income 0 1 3000 = 0
            pass 29 = 59
            income 0 1 2000 = 0
            pass 1 = 60
            bill 0 1 2 = 400
            income 0 2 1000 = 0
            bill 0 1 2 = 400
            pass 30 = 90
            bill 0 2 2 = 700
            income 0 2 2000 = 300
            bill 0 2 2 = 400
            """);
        s.holds("Terms", "The tenant owes the owner the lowered rent, less the benefit, and the heat; "
                + "the desk owes the benefit.",
            "nothing of each, and all of it", ONE_LEASE, """
            pass 30 = 30
            end 0 = 1
            report 0 0 = 0
            report 0 0 = 1
            report 0 0 = 2
            report 0 0 = 3
            pass 30 = 60
            bill 0 1 1 = 1000
            owes 0 = 0
            desk 0 = -800
            owner = 800
            lease 0 1000 = 1
            mend 0 = 27
            mend 1 = 27
            mend 2 = 27
            mend 3 = 27
            pass 30 = 90
            heat 50 = 50
            income 1 3 10000 = 0
            pass 30 = 120
            owes 1 = 1050
            desk 1 = -800
            owner = 550
            """);
    }

    private static void madeAnew(Sentences s) {
        s.holds("Terms", "When an income is told for months whose bills are made, their benefits are made anew",
            "the month of now has no bill yet, and months without a bill get none", ONE_LEASE, """
            pass 30 = 30
            income 0 0 4000 = 0
            income 0 1 4000 = 0
            bill 0 1 2 = -1
            pass 30 = 60
            bill 0 1 2 = 0
            end 0 = 2
            pass 60 = 120
            income 0 3 0 = 0
            income 0 4 0 = 0
            bill 0 3 2 = -1
            income 0 2 0 = -800
            bill 0 1 2 = 0
            bill 0 2 2 = 800
            bill 0 0 2 = -1
            """);
        s.holds("Terms", "what is more the desk owes more, and the tenant less",
            "more, less and nothing more", ONE_LEASE, """
            pass 60 = 60
            owes 0 = 200
            desk 0 = -800
            owner = 600
            income 0 1 666 = 0
            owes 0 = 200
            income 0 1 670 = 1
            owes 0 = 201
            desk 0 = -801
            owner = 600
            income 0 1 666 = -1
            owes 0 = 200
            desk 0 = -800
            owner = 600
            """);
        s.holds("Terms", "their benefits are made anew", "of the lowered rent", ONE_LEASE, """
            pass 56 = 56
            report 0 0 = 0
            pass 4 = 60
            bill 0 1 2 = 792
            income 0 1 2000 = 402
            bill 0 1 2 = 390
            bill 0 1 1 = 10
            owesAnew 0 = 600
            """);
    }

    private static void accounts(Sentences s) {
        s.holds("Terms", "that of the owner minus all of these, kept by itself as each is posted",
            "after each call that posts", ONE_LEASE, """
            owner = 0
            pass 30 = 30
            owner = 800
            pay 0 1 = -1
            owner = 801
            pass 30 = 60
            owes 0 = 199
            desk 0 = -800
            owner = 601
            income 0 1 4000 = 800
            owner = 601
            owes 0 = 999
            desk 0 = -1600
            plan 0 1 = 999
            owner = 601
            """);
        s.holds("Terms", "The account of a tenant is what is owed, that of the desk what it owes less "
                + "what it has paid too much",
            "both below nothing, and both above", ONE_LEASE, """
            pay 0 300 = -300
            pass 60 = 60
            owes 0 = -100
            desk 0 = -800
            income 0 1 4000 = 800
            pass 30 = 90
            owes 0 = 1700
            desk 0 = -1600
            income 0 2 0 = -800
            income 0 1 0 = -800
            owes 0 = 100
            desk 0 = 0
            """);
    }

    private static void greatAccounts(Sentences s) {
        s.holds("Terms", "The account of a tenant is what is owed, that of the desk what it owes",
            "of eight of the highest rents up to the last day", """
            index 200 = 100
            """, Script.repeat(8, """
            flat 1 = #
            lease # 500000 = #
            """), Script.counting(60, "pass 60", 60, 60), Script.repeat(8, """
            owes # = 23800000
            desk # = -800000
            """), """
            owner = -184000000
            """, Script.repeat(8, """
            income # 0 1000000 = 11900000
            owes # = 35700000
            owesAnew # = 35700000
            desk # = -12700000
            """), """
            owner = -184000000
            """);
    }

    private static void income(Sentences s) {
        s.holds("income", "Tells the income of a tenant.", "of a lease that is ended, or never runs", """
            flat 1 = 0
            flat 1 = 1
            lease 0 1000 = 0
            lease 1 1000 = 1
            end 1 = 0
            pass 30 = 30
            end 0 = 1
            pass 60 = 90
            income 1 0 4000 = 0
            income 0 0 4000 = 800
            income 0 3 5 = 0
            owes 1 = 0
            """);
        s.holds("income", "lease: a lease", "the first and the last", """
            flat 1 = 0
            flat 1 = 1
            lease 0 1000 = 0
            lease 1 1000 = 1
            income -1 0 5 = IOOBE
            income 0 0 5 = 0
            income 1 0 5 = 0
            income 2 0 5 = IOOBE
            """);
        s.holds("income", "month: 0 to the month of now", "at both ends and beyond", ONE_LEASE, """
            income 0 0 4000 = 0
            income 0 1 4000 = IOOBE
            pass 60 = 60
            income 0 -1 0 = IOOBE
            income 0 0 0 = -800
            income 0 1 4000 = 800
            income 0 2 0 = 0
            income 0 3 4000 = IOOBE
            pass 30 = 90
            bill 0 2 2 = 800
            """);
        s.holds("income", "month: 0 to the month of now", "in the month of the last day", ONE_LEASE,
            Script.counting(60, "pass 60", 60, 60), """
            income 0 119 4000 = 800
            income 0 120 0 = 0
            income 0 121 0 = IOOBE
            income 0 0 4000 = 94400
            owesAnew 0 = 119000
            """);
        s.holds("income", "cents: 0 to 1000000 a month", "at both ends and beyond", """
            flat 1 = 0
            lease 0 400000 = 0
            pass 60 = 60
            income 0 1 -1 = IAE
            income 0 1 1000001 = IAE
            income 0 1 1000000 = 220000
            income 0 1 999999 = -1
            income 0 1 1 = -219999
            income 0 1 0 = 0
            """);
        s.holds("income", "Returns by how much the account of the tenant is more by that.",
            "more, less, nothing; over some months", ONE_LEASE, """
            pass 60 = 60
            income 0 1 2000 = 400
            income 0 1 2000 = 0
            income 0 1 1000 = -300
            pass 60 = 120
            owes 0 = 900
            income 0 0 4000 = 0
            income 0 1 4000 = 2100
            owes 0 = 3000
            income 0 3 0 = -800
            """);
    }

    private static void incomeRefused(Sentences s) {
        s.holds("income", "Throws IndexOutOfBoundsException if there is no such lease or month",
            "ahead of the other line", """
            income 0 0 5 = IOOBE
            flat 1 = 0
            lease 0 1000 = 0
            income LEAST 0 5 = IOOBE
            income MOST 0 5 = IOOBE
            income 0 LEAST 5 = IOOBE
            income 0 MOST 5 = IOOBE
            income 1 1 -1 = IOOBE
            income 1 0 -1 = IOOBE
            income -1 0 1000001 = IOOBE
            income 0 -1 -1 = IOOBE
            income 0 1 1000001 = IOOBE
            pass 60 = 60
            income 0 3 4000 = IOOBE
            income 1 1 4000 = IOOBE
            bill 0 1 2 = 800
            """);
        s.holds("income", "Throws IllegalArgumentException if cents is out of range",
            "and then the income told earlier holds", ONE_LEASE, """
            income 0 0 2000 = 0
            income 0 0 LEAST = IAE
            income 0 0 MOST = IAE
            income 0 0 -1 = IAE
            income 0 0 1000001 = IAE
            pass 60 = 60
            income 0 1 1000001 = IAE
            income 0 1 -1 = IAE
            bill 0 1 2 = 400
            pass 30 = 90
            bill 0 2 2 = 400
            owes 0 = 1200
            desk 0 = -400
            """);
    }

    private static void owes(Sentences s) {
        s.holds("owes", "Returns the account of a tenant.",
            "1 above nothing, nothing, and 1 below", ONE_LEASE, """
            owes 0 = 0
            pass 60 = 60
            pay 0 199 = 1
            owes 0 = 1
            pay 0 1 = 0
            owes 0 = 0
            pay 0 1 = -1
            owes 0 = -1
            """);
        s.holds("owes", "Returns what is owed.",
            "the most that can be owed by heat in a month", ONE_LEASE, """
            pass 30 = 30
            """, Script.counting(10, "heat 1000000", 1000000, 1000000), """
            pass 30 = 60
            owes 0 = 10000200
            owesAnew 0 = 10000200
            """);
        oneLease(s, "owes");
    }

    private static void oneLease(Sentences s, String call) {
        s.holds(call, "lease: a lease", "the first and the last", """
            flat 1 = 0
            flat 1 = 1
            lease 0 1 = 0
            lease 1 1 = 1
            """,
            call + " -1 = IOOBE",
            call + " 0 = 0",
            call + " 1 = 0",
            call + " 2 = IOOBE");
        s.holds(call, "Throws IndexOutOfBoundsException if there is no such lease",
            "with a flat alone, and far beyond",
            call + " 0 = IOOBE",
            "flat 1 = 0",
            call + " 0 = IOOBE",
            "lease 0 1 = 0",
            call + " 0 = 0",
            call + " LEAST = IOOBE",
            call + " -1 = IOOBE",
            call + " 1 = IOOBE",
            call + " MOST = IOOBE");
    }

    private static void owesAnew(Sentences s) {
        s.holds("owesAnew", "each month being settled once more by its events, and all payments",
            "an ended lease, others behind it, points, incomes told late and again", """
            flat 3 = 0
            flat 2 = 1
            lease 0 1000 = 0
            lease 1 2000 = 1
            index 133 = 100
            pass 30 = 30
            heat 101 = 101
            read 0 3 = 3
            report 1 1 = 0
            pass 30 = 60
            end 0 = 2
            lease 0 3000 = 2
            index 77 = 133
            heat 55 = 55
            pay 0 20 = 335
            pass 60 = 120
            income 0 1 1000 = 68
            income 1 2 5000 = 2129
            income 1 2 4000 = -486
            owes 0 = 718
            owesAnew 0 = 718
            owes 1 = 2911
            owesAnew 1 = 2911
            owes 2 = 462
            owesAnew 2 = 462
            """);
        s.holds("owesAnew", "Returns the same", "below nothing, by payments alone", ONE_LEASE, """
            owesAnew 0 = 0
            pay 0 1000000 = -1000000
            owesAnew 0 = -1000000
            pass 60 = 60
            owesAnew 0 = -999800
            """);
        s.holds("owesAnew", "Returns what is owed.", "the month of now is not settled yet", ONE_LEASE, """
            pass 59 = 59
            heat 9 = 9
            owesAnew 0 = 0
            pass 1 = 60
            owesAnew 0 = 209
            """);
        oneLease(s, "owesAnew");
    }

    private static void desk(Sentences s) {
        s.holds("desk", "Returns what the desk owes for a lease, less what it has paid too much.",
            "below nothing, nothing, and above", ONE_LEASE, """
            desk 0 = 0
            pass 30 = 30
            desk 0 = -800
            end 0 = 1
            income 0 1 4000 = 0
            pass 30 = 60
            desk 0 = -800
            income 0 1 0 = -800
            desk 0 = 0
            """);
        s.holds("desk", "Returns that.", "of each lease its own", """
            flat 1 = 0
            flat 1 = 1
            lease 0 10 = 0
            lease 1 20 = 1
            pass 30 = 30
            desk 0 = -8
            desk 1 = -16
            """);
        oneLease(s, "desk");
    }

    private static void owner(Sentences s) {
        s.holds("owner", "Returns the account of the owner.", "without a lease, and of eight", """
            owner = 0
            pass 60 = 60
            owner = 0
            """, Script.repeat(8, """
            flat 1 = #
            lease # 1000 = #
            """), """
            owner = 0
            pass 30 = 90
            owner = 6400
            pass 30 = 120
            owner = 4800
            """);
    }

    private static void bill(Sentences s) {
        s.holds("bill", "Tells of the bill of a month.",
            "an earlier bill stays, but for its benefit", ONE_LEASE, """
            pass 60 = 60
            index 200 = 100
            report 0 0 = 0
            heat 9 = 9
            pass 30 = 90
            bill 0 1 0 = 1000
            bill 0 1 1 = 0
            bill 0 1 3 = 0
            bill 0 2 3 = 9
            bill 0 2 1 = 270
            income 0 1 4000 = 1384
            bill 0 1 0 = 1000
            bill 0 1 1 = 0
            bill 0 1 2 = 0
            """);
        s.holds("bill", "lease: a lease", "the first and the last", """
            flat 1 = 0
            flat 1 = 1
            lease 0 10 = 0
            lease 1 20 = 1
            pass 60 = 60
            bill -1 1 0 = IOOBE
            bill 0 1 0 = 10
            bill 1 1 0 = 20
            bill 2 1 0 = IOOBE
            """);
        s.holds("bill", "month: 0 to the month of now", "at both ends and beyond", ONE_LEASE, """
            bill 0 0 0 = -1
            bill 0 1 0 = IOOBE
            pass 60 = 60
            bill 0 -1 0 = IOOBE
            bill 0 0 0 = -1
            bill 0 1 0 = 1000
            bill 0 2 0 = -1
            bill 0 3 0 = IOOBE
            """);
        s.holds("bill", "what: 0 the rent, 1 what it is lowered by, 2 the benefit, 3 the heat",
            "each, and beyond", ONE_LEASE, """
            pass 30 = 30
            heat 77 = 77
            report 0 0 = 0
            pass 30 = 60
            bill 0 1 -1 = IAE
            bill 0 1 0 = 1000
            bill 0 1 1 = 270
            bill 0 1 2 = 584
            bill 0 1 3 = 77
            bill 0 1 4 = IAE
            """);
        s.holds("bill", "Returns cents; NONE if there is no such bill.",
            "the months ahead of the first, of it, of the last, and behind it; a bill of 0", """
            flat 1 = 0
            pass 30 = 30
            lease 0 0 = 0
            pass 60 = 90
            end 0 = 3
            bill 0 3 0 = -1
            pass 60 = 150
            bill 0 0 0 = -1
            bill 0 1 0 = -1
            bill 0 1 3 = -1
            bill 0 2 0 = 0
            bill 0 2 2 = 0
            bill 0 3 1 = 0
            bill 0 3 3 = 0
            bill 0 4 0 = -1
            bill 0 4 1 = -1
            bill 0 4 2 = -1
            bill 0 5 3 = -1
            """);
        s.holds("Terms", "The constants: NONE = -1: There is none.", "no bill, and no use", """
            flat 1 = 0
            lease 0 7 = 0
            bill 0 0 0 = -1
            use 0 0 = -1
            """);
    }

    private static void billRefused(Sentences s) {
        s.holds("bill", "Throws IndexOutOfBoundsException if there is no such lease or month",
            "ahead of the other line", """
            bill 0 0 0 = IOOBE
            bill 0 0 4 = IOOBE
            flat 1 = 0
            lease 0 5 = 0
            bill LEAST 0 0 = IOOBE
            bill MOST 0 0 = IOOBE
            bill 0 LEAST 0 = IOOBE
            bill 0 MOST 0 = IOOBE
            bill 1 0 -1 = IOOBE
            bill -1 0 4 = IOOBE
            bill 0 -1 -1 = IOOBE
            bill 0 1 4 = IOOBE
            bill 1 1 4 = IOOBE
            """);
        s.holds("bill", "Throws IllegalArgumentException if what is out of range",
            "without a bill too", ONE_LEASE, """
            bill 0 0 -1 = IAE
            bill 0 0 4 = IAE
            pass 60 = 60
            bill 0 1 LEAST = IAE
            bill 0 1 MOST = IAE
            bill 0 1 -1 = IAE
            bill 0 1 4 = IAE
            bill 0 2 4 = IAE
            """);
    }
}
