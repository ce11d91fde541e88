/** The sentences about time, flats, leases and the index, with promises 1 to 5 and 13. */
final class LeaseSentences {
    private static final String ONE_LEASE = """
        flat 1 = 0
        lease 0 1000 = 0
        """;

    private LeaseSentences() {
    }

    static void all(Sentences s) {
        use(s);
        days(s);
        flats(s);
        leases(s);
        runs(s);
        oneAtATime(s);
        index(s);
        rents(s);
        newObject(s);
        flat(s);
        lease(s);
        leaseRefused(s);
        end(s);
        endRefused(s);
        tellIndex(s);
        pass(s);
        passRefused(s);
    }

    private static void use(Sentences s) {
        s.holds("Use", "An object is used for at most 512 calls", "the 512th call", ONE_LEASE,
            Script.counting(60, "pass 60", 60, 60),
            Script.counting(448, "owesAnew 0", 23800, 0), """
            owner = -23000
            owesAnew 0 = 23800
            """);
        s.holds("Use", "what tenants, the desk and the owner owe adds up to nothing", "of two leases", """
            flat 1 = 0
            flat 2 = 1
            lease 0 1000 = 0
            lease 1 3000 = 1
            pass 30 = 30
            owes 0 = 0
            owes 1 = 0
            desk 0 = -800
            desk 1 = -2400
            owner = 3200
            heat 30 = 30
            pass 30 = 60
            owes 0 = 210
            owes 1 = 620
            desk 0 = -800
            desk 1 = -2400
            owner = 2370
            pay 0 211 = -1
            owner = 2581
            income 1 1 10000 = 2400
            owes 1 = 3020
            desk 1 = -4800
            owner = 2581
            """);
    }

    private static void days(Sentences s) {
        s.holds("Terms", "Days are counted from 0, up to 3600", "one day short, on it, and beyond", """
            pass 1 = 1
            """, Script.counting(59, "pass 60", 61, 60), """
            pass 58 = 3599
            pass 2 = ISE
            pass 1 = 3600
            pass 1 = ISE
            pass 2 = ISE
            """);
        s.holds("Terms", "a month has 30 days, the month m the days from 30 m on", "months 0 to 3", """
            flat 1 = 0
            pass 29 = 29
            use 0 0 = -1
            use 0 1 = IOOBE
            pass 1 = 30
            use 0 0 = 0
            use 0 1 = -1
            use 0 2 = IOOBE
            pass 1 = 31
            use 0 1 = -1
            pass 28 = 59
            use 0 1 = -1
            use 0 2 = IOOBE
            pass 1 = 60
            use 0 1 = 0
            use 0 2 = -1
            pass 31 = 91
            use 0 2 = 0
            use 0 3 = -1
            use 0 4 = IOOBE
            """);
        s.holds("Terms", "a month has 30 days, the month m the days from 30 m on",
            "two months end at once", ONE_LEASE, """
            pass 29 = 29
            pass 60 = 89
            bill 0 1 0 = 1000
            bill 0 2 0 = -1
            bill 0 3 0 = IOOBE
            pass 1 = 90
            pass 60 = 150
            bill 0 2 0 = 1000
            bill 0 3 0 = 1000
            bill 0 4 0 = 1000
            bill 0 5 0 = -1
            owes 0 = 800
            """);
        s.holds("Terms", "Days are counted from 0, up to 3600",
            "the month of the last day begins, and never ends", ONE_LEASE, """
            report 0 0 = 0
            """, Script.counting(59, "pass 60", 60, 60), """
            mend 0 = 3537
            pass 59 = 3599
            desk 0 = -800
            bill 0 119 0 = -1
            use 0 119 = -1
            use 0 120 = IOOBE
            bill 0 120 0 = IOOBE
            pass 1 = 3600
            bill 0 119 0 = 1000
            bill 0 120 0 = -1
            bill 0 121 0 = IOOBE
            use 0 119 = 0
            use 0 120 = -1
            use 0 121 = IOOBE
            desk 0 = -800
            points 0 = 0
            """);
    }

    private static void flats(Sentences s) {
        s.holds("Terms", "Flats are numbered from 0, at most 8, each with rooms.",
            "the seventh, the eighth, a ninth",
            Script.repeat(6, "flat 9 = #"), """
            points 6 = IOOBE
            flat 1 = 6
            points 6 = 0
            points 7 = IOOBE
            flat 2 = 7
            flat 3 = ISE
            points 7 = 0
            points 8 = IOOBE
            lease 7 10 = 0
            lease 8 10 = IOOBE
            """);
    }

    private static void leases(Sentences s) {
        s.holds("Terms", "Leases are numbered from 0, at most 12",
            "the eleventh, the twelfth, a thirteenth", """
            flat 1 = 0
            flat 1 = 1
            """, Script.repeat(10, """
            lease 0 1 = #
            end # = 0
            """), """
            owes 10 = IOOBE
            lease 0 5 = 10
            lease 1 6 = 11
            owes 11 = 0
            owes 12 = IOOBE
            end 10 = 0
            end 11 = 0
            lease 0 7 = ISE
            lease 1 7 = ISE
            pass 60 = 60
            lease 0 7 = ISE
            owes 12 = IOOBE
            """);
        s.holds("Terms", "a lease is of a flat, with a rent in cents at the index 100",
            "of the last flat", """
            flat 1 = 0
            flat 1 = 1
            lease 1 12345 = 0
            report 0 0 = 0
            pass 60 = 60
            bill 0 1 0 = 12345
            bill 0 1 1 = 0
            """);
    }

    private static void runs(Sentences s) {
        s.holds("Terms", "it runs from the next month on",
            "made on the first and on the last day of a month", """
            flat 1 = 0
            flat 1 = 1
            flat 1 = 2
            pass 30 = 30
            lease 0 1000 = 0
            pass 29 = 59
            lease 1 1000 = 1
            pass 1 = 60
            lease 2 1000 = 2
            desk 0 = -800
            desk 1 = -800
            desk 2 = 0
            bill 0 1 0 = -1
            bill 1 1 0 = -1
            pass 29 = 89
            bill 0 2 0 = -1
            pass 1 = 90
            bill 0 2 0 = 1000
            bill 1 2 0 = 1000
            bill 2 2 0 = -1
            desk 2 = -800
            pass 30 = 120
            bill 2 3 0 = 1000
            """);
        s.holds("Terms", "until the end of the month in which it is ended",
            "ended on the first and on the last day of a month", """
            flat 1 = 0
            flat 1 = 1
            flat 1 = 2
            lease 0 1000 = 0
            lease 1 1000 = 1
            lease 2 1000 = 2
            pass 59 = 59
            end 2 = 1
            pass 1 = 60
            end 0 = 2
            desk 0 = -800
            desk 1 = -800
            desk 2 = 0
            pass 29 = 89
            end 1 = 2
            desk 1 = -800
            pass 1 = 90
            desk 0 = 0
            desk 1 = 0
            bill 2 1 0 = 1000
            bill 2 2 0 = -1
            bill 0 2 0 = 1000
            bill 1 2 0 = 1000
            owes 0 = 400
            owes 2 = 200
            pass 30 = 120
            bill 0 3 0 = -1
            bill 1 3 0 = -1
            owes 0 = 400
            desk 0 = 0
            """);
        s.holds("Terms", "until the end of the month in which it is ended", "one month alone", """
            flat 1 = 0
            pass 29 = 29
            lease 0 1000 = 0
            pass 1 = 30
            end 0 = 1
            pass 60 = 90
            bill 0 0 0 = -1
            bill 0 1 0 = 1000
            bill 0 2 0 = -1
            owesAnew 0 = 200
            """);
    }

    private static void oneAtATime(Sentences s) {
        s.holds("Terms", "of a flat at most one lease runs, or is to run, in each month",
            "is to run, runs, was ended, never ran", """
            flat 1 = 0
            flat 1 = 1
            lease 0 100 = 0
            lease 0 100 = ISE
            lease 1 100 = 1
            pass 29 = 29
            lease 0 100 = ISE
            pass 1 = 30
            lease 0 100 = ISE
            pass 29 = 59
            lease 0 100 = ISE
            end 0 = 1
            lease 0 200 = 2
            lease 0 300 = ISE
            end 2 = 1
            lease 0 300 = 3
            lease 0 400 = ISE
            lease 1 400 = ISE
            pass 1 = 60
            lease 0 400 = ISE
            bill 0 1 0 = 100
            bill 2 1 0 = -1
            bill 3 1 0 = -1
            pass 30 = 90
            bill 0 2 0 = -1
            bill 2 2 0 = -1
            bill 3 2 0 = 300
            bill 1 2 0 = 100
            """);
        s.holds("Terms", "of a flat at most one lease runs, or is to run, in each month",
            "let again in the month of the end, and later", """
            flat 1 = 0
            flat 1 = 1
            lease 0 100 = 0
            lease 1 100 = 1
            pass 30 = 30
            end 0 = 1
            end 1 = 1
            pass 29 = 59
            lease 0 200 = 2
            pass 1 = 60
            lease 1 200 = 3
            pass 30 = 90
            bill 0 1 0 = 100
            bill 2 1 0 = -1
            bill 2 2 0 = 200
            bill 3 2 0 = -1
            pass 30 = 120
            bill 3 3 0 = 200
            bill 0 2 0 = -1
            bill 1 2 0 = -1
            """);
    }

    private static void index(Sentences s) {
        s.holds("Terms", "The index is 100 at first", "up to the end of the first month", ONE_LEASE, """
            index 100 = 100
            pass 29 = 29
            index 101 = 100
            pass 1 = 30
            index 99 = 101
            pass 30 = 60
            bill 0 1 0 = 1010
            index 99 = 99
            """);
        s.holds("Terms", "one that is told holds from the next month on",
            "told on the first day, on the last, and twice", ONE_LEASE, """
            pass 30 = 30
            index 200 = 100
            pass 29 = 59
            index 150 = 100
            index 160 = 100
            pass 1 = 60
            index 50 = 160
            bill 0 1 0 = 1000
            desk 0 = -1280
            pass 30 = 90
            bill 0 2 0 = 1600
            index 51 = 50
            pass 60 = 150
            bill 0 3 0 = 500
            bill 0 4 0 = 510
            index 100 = 51
            pass 29 = 179
            index 100 = 51
            pass 1 = 180
            bill 0 5 0 = 510
            index 100 = 100
            """);
        s.holds("Terms", "one that is told holds from the next month on", "in the month of the last day", """
            index 70 = 100
            """, Script.counting(59, "pass 60", 60, 60), """
            pass 59 = 3599
            index 80 = 70
            pass 1 = 3600
            index 90 = 80
            index 91 = 80
            """);
    }

    private static void rents(Sentences s) {
        s.holds("Terms", "The rent of a lease in a month is its rent times the index of that month, "
                + "divided by 100, rounded down.",
            "just below, on and above a cent", Script.repeat(6, "flat 1 = #"), """
            lease 0 0 = 0
            lease 1 1 = 1
            lease 2 2 = 2
            lease 3 100 = 3
            lease 4 101 = 4
            lease 5 500000 = 5
            index 99 = 100
            pass 30 = 30
            index 50 = 99
            pass 30 = 60
            index 199 = 50
            pass 30 = 90
            index 200 = 199
            pass 60 = 150
            bill 0 1 0 = 0
            bill 1 1 0 = 0
            bill 2 1 0 = 1
            bill 3 1 0 = 99
            bill 4 1 0 = 99
            bill 5 1 0 = 495000
            bill 0 2 0 = 0
            bill 1 2 0 = 0
            bill 2 2 0 = 1
            bill 3 2 0 = 50
            bill 4 2 0 = 50
            bill 5 2 0 = 250000
            bill 0 3 0 = 0
            bill 1 3 0 = 1
            bill 2 3 0 = 3
            bill 3 3 0 = 199
            bill 4 3 0 = 200
            bill 5 3 0 = 995000
            bill 0 4 0 = 0
            bill 1 4 0 = 2
            bill 2 4 0 = 4
            bill 3 4 0 = 200
            bill 4 4 0 = 202
            bill 5 4 0 = 1000000
            """);
    }

    private static void newObject(Sentences s) {
        s.holds("A new object", "No flats; the day 0.", "nothing is there, and the first day is 0", """
            points 0 = IOOBE
            owes 0 = IOOBE
            mend 0 = IOOBE
            owner = 0
            index 100 = 100
            pass 1 = 1
            heat 1 = 1
            flat 1 = 0
            lease 0 1 = 0
            report 0 0 = 0
            """);
    }

    private static void flat(Sentences s) {
        s.holds("flat", "Adds a flat.", "in the month of the last day too",
            Script.counting(60, "pass 60", 60, 60), """
            flat 1 = 0
            points 0 = 0
            use 0 120 = -1
            use 0 119 = -1
            """);
        s.holds("flat", "rooms: 1 to 9", "at both ends and beyond", """
            flat 0 = IAE
            flat 1 = 0
            flat 2 = 1
            flat 8 = 2
            flat 9 = 3
            flat 10 = IAE
            """);
        s.holds("flat", "Returns its number.", "from 0 to 7, calls that throw not counted", """
            flat 5 = 0
            flat 0 = IAE
            flat 5 = 1
            flat 10 = IAE
            flat 5 = 2
            """);
        s.holds("flat", "Throws IllegalArgumentException if rooms is out of range",
            "far beyond, and ahead of the other line", """
            flat LEAST = IAE
            flat -1 = IAE
            flat MOST = IAE
            """, Script.repeat(8, "flat 1 = #"), """
            flat 0 = IAE
            flat 10 = IAE
            flat LEAST = IAE
            flat MOST = IAE
            flat 1 = ISE
            flat 9 = ISE
            """);
        s.holds("flat", "Throws IllegalStateException if there are 8", "with seven and with eight",
            Script.repeat(7, "flat 1 = #"), """
            flat 9 = 7
            flat 9 = ISE
            pass 60 = 60
            flat 1 = ISE
            """);
    }

    private static void lease(Sentences s) {
        s.holds("lease", "Makes a lease.", "in the month of the last day too, where it never runs", """
            flat 1 = 0
            """, Script.counting(60, "pass 60", 60, 60), """
            lease 0 5 = 0
            lease 0 5 = ISE
            owes 0 = 0
            desk 0 = 0
            bill 0 120 0 = -1
            bill 0 121 0 = IOOBE
            end 0 = 120
            """);
        s.holds("lease", "flat: a flat", "the first and the last", """
            flat 1 = 0
            flat 1 = 1
            lease -1 5 = IOOBE
            lease 2 5 = IOOBE
            lease 1 5 = 0
            lease 0 5 = 1
            """);
        s.holds("lease", "rent: 0 to 500000", "at both ends and beyond", """
            flat 1 = 0
            flat 1 = 1
            flat 1 = 2
            flat 1 = 3
            lease 0 -1 = IAE
            lease 0 500001 = IAE
            lease 0 0 = 0
            lease 1 1 = 1
            lease 2 499999 = 2
            lease 3 500000 = 3
            pass 60 = 60
            bill 0 1 0 = 0
            bill 1 1 0 = 1
            bill 2 1 0 = 499999
            bill 3 1 0 = 500000
            """);
        s.holds("lease", "Returns its number.", "calls that throw not counted", """
            flat 1 = 0
            flat 1 = 1
            lease 0 1 = 0
            lease 0 1 = ISE
            lease 1 -1 = IAE
            lease 2 1 = IOOBE
            lease 1 1 = 1
            """);
    }

    private static void leaseRefused(Sentences s) {
        s.holds("lease", "Throws IndexOutOfBoundsException if there is no such flat",
            "ahead of both other lines", """
            lease 0 5 = IOOBE
            lease 0 -1 = IOOBE
            flat 1 = 0
            lease LEAST 500001 = IOOBE
            lease MOST -1 = IOOBE
            """, Script.repeat(12, """
            lease 0 1 = #
            end # = 0
            """), """
            lease -1 5 = IOOBE
            lease 1 5 = IOOBE
            lease 1 -1 = IOOBE
            lease 1 500001 = IOOBE
            lease 0 5 = ISE
            """);
        s.holds("lease", "Throws IllegalArgumentException if rent is out of range",
            "ahead of the last line", """
            flat 1 = 0
            lease 0 LEAST = IAE
            lease 0 MOST = IAE
            lease 0 7 = 0
            lease 0 -1 = IAE
            lease 0 500001 = IAE
            lease 0 500000 = ISE
            end 0 = 0
            """, Script.repeat(11, """
            lease 0 -1 = IAE
            """), """
            lease 0 8 = 1
            pass 60 = 60
            bill 1 1 0 = 8
            """);
        s.holds("lease", "Throws IllegalStateException if there are 12, or one runs on from the next month",
            "with eleven, with twelve, and with one that runs on", """
            flat 1 = 0
            flat 1 = 1
            """, Script.repeat(10, """
            lease 0 1 = #
            lease 0 1 = ISE
            end # = 0
            """), """
            lease 0 1 = 10
            lease 0 1 = ISE
            lease 1 1 = 11
            end 11 = 0
            lease 1 1 = ISE
            pass 60 = 60
            lease 1 1 = ISE
            bill 10 1 0 = 1
            """);
        s.holds("lease", "or one runs on from the next month",
            "one that was ended runs no longer on", ONE_LEASE, """
            pass 60 = 60
            lease 0 5 = ISE
            end 0 = 2
            lease 0 5 = 1
            lease 0 6 = ISE
            pass 30 = 90
            lease 0 6 = ISE
            end 1 = 3
            pass 30 = 120
            lease 0 6 = 2
            """);
    }

    private static void end(Sentences s) {
        s.holds("end", "one that did not run yet never does",
            "ended on the day it was made, and on the last day ahead of its first month", """
            flat 1 = 0
            flat 1 = 1
            pass 30 = 30
            lease 0 1000 = 0
            lease 1 1000 = 1
            end 0 = 1
            pass 29 = 59
            end 1 = 1
            pass 1 = 60
            desk 0 = 0
            desk 1 = 0
            owner = 0
            heat 5 = 5
            pass 30 = 90
            bill 0 1 0 = -1
            bill 0 2 0 = -1
            bill 1 2 0 = -1
            owes 0 = 0
            owesAnew 1 = 0
            owner = 0
            """);
        s.holds("end", "Ends a lease with this month", "on the first day that it runs", ONE_LEASE, """
            pass 30 = 30
            end 0 = 1
            pass 60 = 90
            bill 0 1 0 = 1000
            bill 0 2 0 = -1
            owes 0 = 200
            desk 0 = 0
            """);
        s.holds("end", "lease: a lease", "the first and the last", """
            flat 1 = 0
            flat 1 = 1
            lease 0 1 = 0
            lease 1 1 = 1
            end -1 = IOOBE
            end 2 = IOOBE
            end 1 = 0
            end 0 = 0
            """);
        s.holds("end", "Returns its last month, perhaps ahead of its first one.",
            "ahead of its first, its first, and behind it", """
            flat 1 = 0
            flat 1 = 1
            flat 1 = 2
            pass 59 = 59
            lease 0 5 = 0
            lease 1 5 = 1
            lease 2 5 = 2
            end 0 = 1
            pass 1 = 60
            end 1 = 2
            pass 29 = 89
            pass 1 = 90
            end 2 = 3
            """);
        s.holds("end", "Returns its last month, perhaps ahead of its first one.",
            "months 0 and 120", ONE_LEASE, """
            end 0 = 0
            lease 0 5 = 1
            """, Script.counting(60, "pass 60", 60, 60), """
            end 1 = 120
            """);
    }

    private static void endRefused(Sentences s) {
        s.holds("end", "Throws IndexOutOfBoundsException if there is no such lease",
            "just and far beyond, when others were ended", """
            end 0 = IOOBE
            flat 1 = 0
            end 0 = IOOBE
            lease 0 1000 = 0
            end 0 = 0
            end -1 = IOOBE
            end 1 = IOOBE
            end LEAST = IOOBE
            end MOST = IOOBE
            end 0 = ISE
            """);
        s.holds("end", "Throws IllegalStateException if it was ended",
            "in the same month, in a later one, and with a new lease", ONE_LEASE, """
            pass 30 = 30
            end 0 = 1
            end 0 = ISE
            lease 0 7 = 1
            end 0 = ISE
            pass 30 = 60
            end 0 = ISE
            pass 60 = 120
            end 0 = ISE
            bill 0 1 0 = 1000
            bill 0 2 0 = -1
            bill 1 3 0 = 7
            end 1 = 4
            end 1 = ISE
            """);
    }

    private static void tellIndex(Sentences s) {
        s.holds("index", "Tells the index from the next month on.",
            "not for the bill of this month", ONE_LEASE, """
            pass 59 = 59
            index 200 = 100
            pass 1 = 60
            bill 0 1 0 = 1000
            pass 30 = 90
            bill 0 2 0 = 2000
            """);
        s.holds("index", "points: 50 to 200", "at both ends and beyond", """
            index 49 = IAE
            index 50 = 100
            pass 30 = 30
            index 51 = 50
            pass 30 = 60
            index 199 = 51
            pass 30 = 90
            index 200 = 199
            index 201 = IAE
            pass 30 = 120
            index 100 = 200
            """);
        s.holds("index", "Returns that of this month.", "not one told in this month", """
            index 70 = 100
            index 80 = 100
            pass 30 = 30
            index 90 = 80
            index 80 = 80
            pass 60 = 90
            index 100 = 80
            """);
        s.holds("index", "Throws IllegalArgumentException if points is out of range",
            "and then the one told earlier holds", """
            index LEAST = IAE
            index -1 = IAE
            index 0 = IAE
            index MOST = IAE
            index 120 = 100
            index 49 = IAE
            index 201 = IAE
            pass 30 = 30
            index 49 = IAE
            index 100 = 120
            """);
    }

    private static void pass(Sentences s) {
        s.holds("pass", "Lets days pass.", "the 30 days of a month, or 29 and 31", """
            flat 1 = 0
            report 0 0 = 0
            pass 29 = 29
            points 0 = 780
            pass 1 = 30
            points 0 = 0
            pass 31 = 61
            points 0 = 30
            """);
        s.holds("pass", "days: 1 to 60", "at both ends and beyond", """
            pass 0 = IAE
            pass 1 = 1
            pass 2 = 3
            pass 59 = 62
            pass 60 = 122
            pass 61 = IAE
            pass 1 = 123
            """);
        s.holds("pass", "Returns the day then.", "from 1 on", """
            pass 1 = 1
            pass 29 = 30
            pass 60 = 90
            """);
    }

    private static void passRefused(Sentences s) {
        s.holds("pass", "Throws IllegalArgumentException if days is out of range",
            "ahead of the other line", """
            pass LEAST = IAE
            pass -1 = IAE
            pass MOST = IAE
            """, Script.counting(60, "pass 60", 60, 60), """
            pass 0 = IAE
            pass -1 = IAE
            pass 61 = IAE
            pass LEAST = IAE
            pass MOST = IAE
            pass 1 = ISE
            pass 60 = ISE
            """);
        s.holds("pass", "Throws IllegalStateException if it would be above 3600",
            "just not, just, and by far; no day of it passes", """
            flat 1 = 0
            """, Script.counting(59, "pass 60", 60, 60), """
            report 0 0 = 0
            pass 10 = 3550
            points 0 = 210
            pass 51 = ISE
            pass 60 = ISE
            points 0 = 210
            pass 1 = 3551
            pass 50 = ISE
            points 0 = 240
            pass 49 = 3600
            points 0 = 0
            pass 1 = ISE
            mend 0 = 57
            """);
    }
}
