/** The sentences about meters and heat, with promises 6, 7 and 20. */
final class MeterSentences {
    private MeterSentences() {
    }

    static void all(Sentences s) {
        meters(s);
        readInTheMonth(s);
        guesses(s);
        guessesOfMuch(s);
        counted(s);
        costs(s);
        threeTenths(s);
        allByRooms(s);
        nobody(s);
        shares(s);
        sharesOfMuch(s);
        read(s);
        readRefused(s);
        heat(s);
        use(s);
    }

    private static void meters(Sentences s) {
        s.holds("Terms", "A flat has a meter that shows 0 at first", "read as -1, 0 and 1", """
            flat 1 = 0
            flat 1 = 1
            read 0 -1 = IAE
            read 0 0 = 0
            read 0 1 = 1
            read 1 1 = 1
            """);
        s.holds("Terms", "it can be read, and shows no less than when it was read last",
            "one less, the same, one more; in this month and in a later one", """
            flat 1 = 0
            flat 1 = 1
            read 0 50 = 50
            read 0 49 = IAE
            read 0 50 = 0
            read 1 49 = 49
            read 0 51 = 1
            read 0 50 = IAE
            pass 60 = 60
            read 0 50 = IAE
            read 0 0 = IAE
            read 0 51 = 0
            read 0 52 = 1
            """);
    }

    private static void readInTheMonth(Sentences s) {
        s.holds("Terms", "if it was read in this month",
            "on the last day of a month, and on the first of the next", """
            flat 1 = 0
            flat 1 = 1
            pass 29 = 29
            read 0 10 = 10
            pass 1 = 30
            read 1 10 = 10
            use 0 0 = 10
            use 1 0 = 0
            pass 30 = 60
            use 0 1 = 10
            use 1 1 = 10
            pass 30 = 90
            use 0 2 = 10
            use 1 2 = 5
            """);
        s.holds("Terms", "if it was read in this month",
            "read as what it showed before: a use of 0, and no guess", """
            flat 1 = 0
            read 0 10 = 10
            pass 30 = 30
            read 0 10 = 0
            pass 30 = 60
            use 0 1 = 0
            pass 30 = 90
            use 0 2 = 5
            """);
        s.holds("Terms", "what it showed last, less what was counted so far, at least 0",
            "one less than what was counted, the same, one more", """
            flat 1 = 0
            flat 1 = 1
            flat 1 = 2
            read 0 10 = 10
            read 1 10 = 10
            read 2 10 = 10
            pass 60 = 60
            read 0 19 = 9
            read 1 20 = 10
            read 2 21 = 11
            pass 30 = 90
            use 0 1 = 10
            use 0 2 = 0
            use 1 2 = 0
            use 2 2 = 1
            read 0 21 = 2
            read 1 21 = 1
            read 2 21 = 0
            pass 30 = 120
            use 0 3 = 1
            use 1 3 = 1
            use 2 3 = 0
            """);
        s.holds("Terms", "what it showed last, less what was counted so far, at least 0",
            "the last of some readings", """
            flat 1 = 0
            read 0 3 = 3
            pass 10 = 10
            read 0 9 = 6
            pass 19 = 29
            read 0 11 = 2
            pass 1 = 30
            use 0 0 = 11
            read 0 12 = 1
            pass 30 = 60
            use 0 1 = 1
            """);
    }

    private static void guesses(Sentences s) {
        s.holds("Terms", "0 without any",
            "in the first month of a flat, also one that is added on its last day", """
            flat 1 = 0
            pass 29 = 29
            flat 1 = 1
            pass 1 = 30
            use 0 0 = 0
            use 1 0 = 0
            flat 1 = 2
            pass 30 = 60
            use 2 0 = -1
            use 2 1 = 0
            """);
        s.holds("Terms", "otherwise the sum of its uses in the last three months (of those that there "
                + "are), divided by how many these are, rounded down",
            "one, two, three and four months", """
            flat 1 = 0
            read 0 9000 = 9000
            pass 60 = 60
            use 0 1 = 9000
            flat 1 = 1
            read 1 5 = 5
            pass 30 = 90
            read 1 5 = 0
            pass 30 = 120
            use 1 2 = 5
            use 1 3 = 0
            pass 30 = 150
            use 1 4 = 2
            pass 30 = 180
            use 1 5 = 2
            pass 30 = 210
            use 1 6 = 1
            """);
        s.holds("Terms", "divided by how many these are, rounded down",
            "just below, on and above a third and a half",
            Script.repeat(4, """
            flat 1 = #
            read # # = #
            """), """
            read 3 4 = 1
            pass 30 = 30
            read 0 1 = 1
            read 1 2 = 1
            read 2 3 = 1
            read 3 4 = 0
            pass 30 = 60
            pass 30 = 90
            use 0 2 = 0
            use 1 2 = 1
            use 2 2 = 1
            use 3 2 = 2
            pass 30 = 120
            use 0 3 = 0
            use 1 3 = 1
            use 2 3 = 1
            use 3 3 = 2
            pass 30 = 150
            use 0 4 = 0
            use 1 4 = 1
            use 2 4 = 1
            use 3 4 = 1
            """);
    }

    private static void guessesOfMuch(Sentences s) {
        s.holds("Terms", "otherwise the sum of its uses in the last three months",
            "of the most that a meter shows, up to the last month", """
            flat 1 = 0
            read 0 1000000 = 1000000
            """, Script.counting(59, "pass 60", 60, 60), """
            use 0 0 = 1000000
            use 0 1 = 1000000
            use 0 117 = 1000000
            read 0 1000000 = 0
            pass 30 = 3570
            use 0 118 = 0
            pass 30 = 3600
            use 0 119 = 666666
            """);
    }

    private static void counted(Sentences s) {
        s.holds("Terms", "The use is counted then.", "a guess, and a reading that is behind the guesses", """
            flat 1 = 0
            read 0 6 = 6
            pass 60 = 60
            pass 30 = 90
            use 0 2 = 6
            read 0 17 = 11
            pass 30 = 120
            use 0 3 = 0
            read 0 18 = 1
            pass 30 = 150
            use 0 4 = 0
            read 0 19 = 1
            pass 30 = 180
            use 0 5 = 1
            """);
        s.holds("Terms", "At the end of a month the use of a flat in it is found",
            "with and without a lease", """
            flat 1 = 0
            flat 1 = 1
            lease 0 100 = 0
            read 0 5 = 5
            read 1 5 = 5
            pass 30 = 30
            use 0 0 = 5
            use 1 0 = 5
            read 1 12 = 7
            pass 30 = 60
            use 0 1 = 5
            use 1 1 = 7
            """);
    }

    private static void costs(Sentences s) {
        s.holds("Terms", "The heat of a month has a cost, 0 as the month begins.",
            "on the last day of a month, and on the first of the next", """
            flat 1 = 0
            lease 0 0 = 0
            pass 30 = 30
            heat 5 = 5
            pass 29 = 59
            heat 1 = 6
            pass 1 = 60
            bill 0 1 3 = 6
            heat 1 = 1
            pass 30 = 90
            bill 0 2 3 = 1
            pass 30 = 120
            bill 0 3 3 = 0
            heat 2 = 2
            """);
    }

    private static void threeTenths(Sentences s) {
        s.holds("Terms", "three tenths of it, rounded down, by the rooms, the rest by the uses of their flats",
            "costs of 1, 3, 4, 6, 7 and 10", """
            flat 9 = 0
            flat 1 = 1
            lease 0 0 = 0
            lease 1 0 = 1
            read 1 1 = 1
            pass 30 = 30
            heat 1 = 1
            pass 30 = 60
            bill 0 1 3 = 0
            bill 1 1 3 = 1
            heat 3 = 3
            pass 30 = 90
            bill 0 2 3 = 0
            bill 1 2 3 = 3
            heat 4 = 4
            pass 30 = 120
            bill 0 3 3 = 1
            bill 1 3 3 = 3
            heat 6 = 6
            pass 30 = 150
            bill 0 4 3 = 1
            bill 1 4 3 = 5
            heat 7 = 7
            pass 30 = 180
            bill 0 5 3 = 2
            bill 1 5 3 = 5
            heat 10 = 10
            pass 30 = 210
            bill 0 6 3 = 3
            bill 1 6 3 = 7
            """);
    }

    private static void allByRooms(Sentences s) {
        s.holds("Terms", "all of it by rooms, if these uses are 0 together", "0 together, and 1 together", """
            flat 9 = 0
            flat 1 = 1
            lease 0 0 = 0
            lease 1 0 = 1
            pass 30 = 30
            heat 10 = 10
            pass 30 = 60
            bill 0 1 3 = 9
            bill 1 1 3 = 1
            read 1 1 = 1
            heat 10 = 10
            pass 30 = 90
            bill 0 2 3 = 3
            bill 1 2 3 = 7
            heat 10 = 10
            pass 30 = 120
            use 1 3 = 0
            bill 0 3 3 = 9
            bill 1 3 3 = 1
            """);
        s.holds("Terms", "all of it by rooms, if these uses are 0 together",
            "a flat without a lease that runs has a use", """
            flat 9 = 0
            flat 1 = 1
            flat 5 = 2
            lease 0 0 = 0
            lease 1 0 = 1
            lease 2 0 = 2
            end 2 = 0
            read 2 100 = 100
            pass 30 = 30
            lease 2 0 = 3
            heat 10 = 10
            pass 30 = 60
            use 2 1 = 100
            bill 0 1 3 = 9
            bill 1 1 3 = 1
            heat 10 = 10
            pass 30 = 90
            bill 0 2 3 = 2
            bill 1 2 3 = 0
            bill 3 2 3 = 8
            """);
    }

    private static void nobody(Sentences s) {
        s.holds("Terms", "Without such a lease nobody bears it.",
            "ahead of the first month, behind the last one, and in none of the others", """
            flat 1 = 0
            heat 100 = 100
            pass 29 = 29
            lease 0 0 = 0
            heat 1 = 101
            pass 1 = 30
            owes 0 = 0
            owner = 0
            pass 30 = 60
            bill 0 1 3 = 0
            end 0 = 2
            heat 7 = 7
            pass 30 = 90
            bill 0 2 3 = 7
            heat 100 = 100
            pass 30 = 120
            owes 0 = 7
            owesAnew 0 = 7
            owner = -7
            lease 0 0 = 1
            pass 60 = 180
            bill 1 5 3 = 0
            owes 1 = 0
            """);
        s.holds("Terms", "At its end it is shared by the leases that run",
            "one that ends with the month, one that begins behind it", """
            flat 1 = 0
            flat 1 = 1
            lease 0 0 = 0
            pass 30 = 30
            lease 1 0 = 1
            heat 11 = 11
            end 0 = 1
            pass 30 = 60
            bill 0 1 3 = 11
            bill 1 1 3 = -1
            heat 13 = 13
            pass 30 = 90
            bill 0 2 3 = -1
            bill 1 2 3 = 13
            """);
    }

    private static void shares(Sentences s) {
        s.holds("Terms", "and of what is left 1 each to those with the greatest remainders, of the same "
                + "to the lower number first",
            "nothing left, one, two, and again nothing", """
            flat 4 = 0
            flat 4 = 1
            flat 4 = 2
            lease 2 0 = 0
            lease 1 0 = 1
            lease 0 0 = 2
            pass 60 = 60
            bill 0 1 3 = 0
            bill 2 1 3 = 0
            heat 1 = 1
            pass 30 = 90
            bill 0 2 3 = 1
            bill 1 2 3 = 0
            bill 2 2 3 = 0
            heat 2 = 2
            pass 30 = 120
            bill 0 3 3 = 1
            bill 1 3 3 = 1
            bill 2 3 3 = 0
            heat 3 = 3
            pass 30 = 150
            bill 0 4 3 = 1
            bill 1 4 3 = 1
            bill 2 4 3 = 1
            heat 4 = 4
            pass 30 = 180
            bill 0 5 3 = 2
            bill 1 5 3 = 1
            bill 2 5 3 = 1
            """);
        s.holds("Terms", "of what is left 1 each to those with the greatest remainders",
            "not to the greater weight, nor to the lower number", """
            flat 1 = 0
            flat 5 = 1
            lease 0 0 = 0
            lease 1 0 = 1
            pass 30 = 30
            heat 7 = 7
            pass 30 = 60
            bill 0 1 3 = 1
            bill 1 1 3 = 6
            heat 11 = 11
            pass 30 = 90
            bill 0 2 3 = 2
            bill 1 2 3 = 9
            heat 9 = 9
            pass 30 = 120
            bill 0 3 3 = 2
            bill 1 3 3 = 7
            heat 12 = 12
            pass 30 = 150
            bill 0 4 3 = 2
            bill 1 4 3 = 10
            """);
        s.holds("Terms", "of the same to the lower number first",
            "of eight, the most that can be left is seven; and without a weight there is none",
            Script.repeat(8, """
            flat 3 = #
            lease # 0 = #
            """), """
            pass 30 = 30
            heat 15 = 15
            pass 30 = 60
            """, Script.repeat(7, "bill # 1 3 = 2"), """
            bill 7 1 3 = 1
            read 2 1 = 1
            read 5 1 = 1
            read 7 1 = 1
            heat 2 = 2
            pass 30 = 90
            bill 0 2 3 = 0
            bill 1 2 3 = 0
            bill 2 2 3 = 1
            bill 3 2 3 = 0
            bill 5 2 3 = 1
            bill 7 2 3 = 0
            """);
    }

    private static void sharesOfMuch(Sentences s) {
        s.holds("Terms", "To share a sum by weights is to give each the sum times its weight, divided "
                + "by all weights, rounded down",
            "the most heat, and the most that meters show", """
            flat 1 = 0
            flat 1 = 1
            flat 1 = 2
            lease 0 0 = 0
            lease 1 0 = 1
            lease 2 0 = 2
            pass 30 = 30
            """, Script.counting(10, "heat 1000000", 1000000, 1000000), """
            read 0 1000000 = 1000000
            read 1 999999 = 999999
            read 2 1 = 1
            pass 30 = 60
            bill 0 1 3 = 4500000
            bill 1 1 3 = 4499997
            bill 2 1 3 = 1000003
            owner = -10000000
            """);
        s.holds("Terms", "To share a sum by weights is to give each the sum times its weight",
            "eight meters that show the most",
            Script.repeat(8, """
            flat 9 = #
            lease # 0 = #
            read # 1000000 = 1000000
            """), """
            pass 30 = 30
            """, Script.counting(9, "heat 1000000", 1000000, 1000000), """
            heat 999999 = 9999999
            pass 30 = 60
            """, Script.repeat(5, "bill # 1 3 = 1250000"), """
            bill 5 1 3 = 1250000
            bill 6 1 3 = 1250000
            bill 7 1 3 = 1249999
            """);
    }

    private static void read(Sentences s) {
        s.holds("read", "Reads a meter.", "on the last day too", """
            flat 1 = 0
            """, Script.counting(60, "pass 60", 60, 60), """
            read 0 4 = 4
            read 0 3 = IAE
            read 0 4 = 0
            use 0 120 = -1
            """);
        s.holds("read", "flat: a flat", "the first and the last", """
            flat 1 = 0
            flat 1 = 1
            read -1 5 = IOOBE
            read 2 5 = IOOBE
            read 0 5 = 5
            read 1 6 = 6
            """);
        s.holds("read", "shown: what it shows, 0 to 1000000", "at both ends and beyond", """
            flat 1 = 0
            flat 1 = 1
            read 0 -1 = IAE
            read 0 0 = 0
            read 0 999999 = 999999
            read 0 1000000 = 1
            read 0 1000001 = IAE
            read 1 1000001 = IAE
            read 1 1000000 = 1000000
            """);
        s.holds("read", "Returns how much more than when it was read last.",
            "not more than what was counted", """
            flat 1 = 0
            read 0 7 = 7
            read 0 7 = 0
            read 0 8 = 1
            pass 60 = 60
            read 0 10 = 2
            pass 60 = 120
            read 0 30 = 20
            """);
    }

    private static void readRefused(Sentences s) {
        s.holds("read", "Throws IndexOutOfBoundsException if there is no such flat",
            "ahead of the other line", """
            read 0 5 = IOOBE
            read 0 -1 = IOOBE
            flat 1 = 0
            read -1 -1 = IOOBE
            read 1 1000001 = IOOBE
            read LEAST 5 = IOOBE
            read MOST 5 = IOOBE
            read 0 5 = 5
            read 1 4 = IOOBE
            """);
        s.holds("read", "Throws IllegalArgumentException if shown is out of range, or less than it showed",
            "a refused reading is none: the use is guessed, and the next one is held against the last", """
            flat 1 = 0
            read 0 LEAST = IAE
            read 0 MOST = IAE
            read 0 6 = 6
            pass 30 = 30
            read 0 5 = IAE
            read 0 -1 = IAE
            read 0 0 = IAE
            read 0 1000001 = IAE
            pass 30 = 60
            use 0 1 = 6
            read 0 5 = IAE
            read 0 6 = 0
            pass 30 = 90
            use 0 2 = 0
            """);
    }

    private static void heat(Sentences s) {
        s.holds("heat", "Adds to the cost of heat of this month.", "without a flat, and on the last day", """
            heat 3 = 3
            """, Script.counting(60, "pass 60", 60, 60), """
            heat 4 = 4
            heat 5 = 9
            """);
        s.holds("heat", "cents: 1 to 1000000", "at both ends and beyond", """
            heat 0 = IAE
            heat 1 = 1
            heat 2 = 3
            heat 999999 = 1000002
            heat 1000000 = 2000002
            heat 1000001 = IAE
            """);
        s.holds("heat", "Returns the cost then.", "of this month alone", """
            heat 10 = 10
            heat 10 = 20
            pass 30 = 30
            heat 10 = 10
            """);
        s.holds("heat", "Throws IllegalArgumentException if cents is out of range",
            "ahead of the other line", """
            heat LEAST = IAE
            heat -1 = IAE
            heat MOST = IAE
            """, Script.counting(10, "heat 1000000", 1000000, 1000000), """
            heat 0 = IAE
            heat -1 = IAE
            heat 1000001 = IAE
            heat LEAST = IAE
            heat MOST = IAE
            heat 1000000 = ISE
            heat 1 = ISE
            """);
        s.holds("heat", "Throws IllegalStateException if it would be above 10000000",
            "just below, on it, just above; the cost stays", """
            flat 1 = 0
            lease 0 0 = 0
            pass 30 = 30
            """, Script.counting(9, "heat 1000000", 1000000, 1000000), """
            heat 999998 = 9999998
            heat 3 = ISE
            heat 1000000 = ISE
            heat 1 = 9999999
            heat 2 = ISE
            heat 1 = 10000000
            heat 1 = ISE
            pass 30 = 60
            bill 0 1 3 = 10000000
            heat 1 = 1
            """);
    }

    private static void use(Sentences s) {
        s.holds("use", "Returns the use of a flat in a month.",
            "a later reading changes none that was found", """
            flat 1 = 0
            flat 1 = 1
            read 1 8 = 8
            pass 60 = 60
            read 1 100 = 92
            pass 30 = 90
            use 0 0 = 0
            use 1 0 = 8
            use 1 1 = 8
            use 1 2 = 84
            """);
        s.holds("use", "flat: a flat", "the first and the last", """
            flat 1 = 0
            flat 1 = 1
            use -1 0 = IOOBE
            use 0 0 = -1
            use 1 0 = -1
            use 2 0 = IOOBE
            """);
        s.holds("use", "month: 0 to the month of now", "at both ends and beyond", """
            flat 1 = 0
            pass 60 = 60
            use 0 -1 = IOOBE
            use 0 0 = 0
            use 0 1 = 0
            use 0 2 = -1
            use 0 3 = IOOBE
            """);
        s.holds("use", "Returns the use; NONE if it was not found yet, or the flat was added later.",
            "the month of now; the months ahead of the flat, of the flat, and behind it", """
            pass 60 = 60
            pass 29 = 89
            flat 1 = 0
            read 0 3 = 3
            use 0 0 = -1
            use 0 1 = -1
            use 0 2 = -1
            pass 1 = 90
            use 0 1 = -1
            use 0 2 = 3
            use 0 3 = -1
            pass 30 = 120
            use 0 0 = -1
            use 0 3 = 3
            use 0 4 = -1
            use 0 5 = IOOBE
            """);
        s.holds("use", "Throws IndexOutOfBoundsException if there is no such flat or month",
            "either of them, and both", """
            use 0 0 = IOOBE
            flat 1 = 0
            pass 30 = 30
            use LEAST 0 = IOOBE
            use MOST 0 = IOOBE
            use 0 LEAST = IOOBE
            use 0 MOST = IOOBE
            use 0 2 = IOOBE
            use 1 2 = IOOBE
            use -1 -1 = IOOBE
            use 0 1 = -1
            """);
    }
}
