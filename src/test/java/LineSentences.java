/** The sentences about the lines of bills, with promise 19. */
final class LineSentences {
    private static final String QUOTE_OF_AMOUNTS =
            "cents as two digits behind a comma, ahead of it the rest with a dot ahead of "
                + "each three digits that have others ahead of them";

    private static final String ONE_BILL = """
        flat 1 = 0
        lease 0 1000 = 0
        pass 60 = 60
        """;

    private LineSentences() {
    }

    static void all(Sentences s) {
        parts(s);
        numbers(s);
        amounts(s);
        greatAmounts(s);
        allTogether(s);
        line(s);
        blanks(s);
        refused(s);
    }

    private static void parts(Sentences s) {
        s.holds("Terms", "The line of a bill is: L and the lease, a blank, M and the month, then for "
                + "the rent, what it is lowered by, the benefit and the heat, and all together",
            "each of them another amount, and each of them 0", """
            flat 1 = 0
            lease 0 1000 = 0
            pass 30 = 30
            report 0 0 = 0
            heat 77 = 77
            pass 30 = 60
            text 0 1 = 'L0 M1 R10,00 X2,70 B5,84 H0,77 T2,23'
            end 0 = 2
            lease 0 0 = 1
            mend 0 = 27
            pass 60 = 120
            text 0 2 = 'L0 M2 R10,00 X0,00 B8,00 H0,00 T2,00'
            text 1 3 = 'L1 M3 R0,00 X0,00 B0,00 H0,00 T0,00'
            """);
    }

    private static void numbers(Sentences s) {
        s.holds("Terms", "L and the lease, a blank, M and the month",
            "leases 9, 10 and 11, months of one, two and three digits", """
            flat 1 = 0
            flat 1 = 1
            flat 1 = 2
            """, Script.repeat(9, """
            lease 0 1 = #
            end # = 0
            """), """
            lease 0 0 = 9
            lease 1 0 = 10
            lease 2 0 = 11
            """, Script.counting(60, "pass 60", 60, 60), """
            text 9 1 = 'L9 M1 R0,00 X0,00 B0,00 H0,00 T0,00'
            text 9 9 = 'L9 M9 R0,00 X0,00 B0,00 H0,00 T0,00'
            text 9 10 = 'L9 M10 R0,00 X0,00 B0,00 H0,00 T0,00'
            text 10 99 = 'L10 M99 R0,00 X0,00 B0,00 H0,00 T0,00'
            text 10 100 = 'L10 M100 R0,00 X0,00 B0,00 H0,00 T0,00'
            text 11 119 = 'L11 M119 R0,00 X0,00 B0,00 H0,00 T0,00'
            line 11 120 0 = 32
            """);
    }

    private static void amounts(Sentences s) {
        s.holds("Terms", QUOTE_OF_AMOUNTS, "from a cent up to ten",
            withHeats(1, 9, 10, 11, 99, 100, 101, 109, 110, 999, 1000),
            "text 0 1 = 'L0 M1 R0,00 X0,00 B0,00 H0,01 T0,01'",
            "text 0 2 = 'L0 M2 R0,00 X0,00 B0,00 H0,09 T0,09'",
            "text 0 3 = 'L0 M3 R0,00 X0,00 B0,00 H0,10 T0,10'",
            "text 0 4 = 'L0 M4 R0,00 X0,00 B0,00 H0,11 T0,11'",
            "text 0 5 = 'L0 M5 R0,00 X0,00 B0,00 H0,99 T0,99'",
            "text 0 6 = 'L0 M6 R0,00 X0,00 B0,00 H1,00 T1,00'",
            "text 0 7 = 'L0 M7 R0,00 X0,00 B0,00 H1,01 T1,01'",
            "text 0 8 = 'L0 M8 R0,00 X0,00 B0,00 H1,09 T1,09'",
            "text 0 9 = 'L0 M9 R0,00 X0,00 B0,00 H1,10 T1,10'",
            "text 0 10 = 'L0 M10 R0,00 X0,00 B0,00 H9,99 T9,99'",
            "text 0 11 = 'L0 M11 R0,00 X0,00 B0,00 H10,00 T10,00'");
        s.holds("Terms", QUOTE_OF_AMOUNTS, "around a hundred and a thousand, where the first dot is",
            withHeats(9999, 10000, 99999, 100000, 100001, 100100, 101000),
            "text 0 1 = 'L0 M1 R0,00 X0,00 B0,00 H99,99 T99,99'",
            "text 0 2 = 'L0 M2 R0,00 X0,00 B0,00 H100,00 T100,00'",
            "text 0 3 = 'L0 M3 R0,00 X0,00 B0,00 H999,99 T999,99'",
            "text 0 4 = 'L0 M4 R0,00 X0,00 B0,00 H1.000,00 T1.000,00'",
            "text 0 5 = 'L0 M5 R0,00 X0,00 B0,00 H1.000,01 T1.000,01'",
            "text 0 6 = 'L0 M6 R0,00 X0,00 B0,00 H1.001,00 T1.001,00'",
            "text 0 7 = 'L0 M7 R0,00 X0,00 B0,00 H1.010,00 T1.010,00'");
        s.holds("Terms", QUOTE_OF_AMOUNTS, "behind the dot, and up to the most that is told at once",
            withHeats(109900, 110000, 199999, 200000, 999999, 1000000),
            "text 0 1 = 'L0 M1 R0,00 X0,00 B0,00 H1.099,00 T1.099,00'",
            "text 0 2 = 'L0 M2 R0,00 X0,00 B0,00 H1.100,00 T1.100,00'",
            "text 0 3 = 'L0 M3 R0,00 X0,00 B0,00 H1.999,99 T1.999,99'",
            "text 0 4 = 'L0 M4 R0,00 X0,00 B0,00 H2.000,00 T2.000,00'",
            "text 0 5 = 'L0 M5 R0,00 X0,00 B0,00 H9.999,99 T9.999,99'",
            "text 0 6 = 'L0 M6 R0,00 X0,00 B0,00 H10.000,00 T10.000,00'");
    }

    /** One lease without rent, which bears all of these costs, one in each month from 1 on. */
    private static String withHeats(int... costs) {
        StringBuilder calls = new StringBuilder("flat 1 = 0\nlease 0 0 = 0\npass 30 = 30\n");
        int day = 30;
        for (int cost : costs) {
            day += 30;
            calls.append("heat ").append(cost).append(" = ").append(cost).append('\n');
            calls.append("pass 30 = ").append(day).append('\n');
        }
        return calls.toString();
    }

    private static void greatAmounts(Sentences s) {
        s.holds("Terms", QUOTE_OF_AMOUNTS,
            "just below, on and above a hundred thousand; the longest line", """
            flat 1 = 0
            """, Script.repeat(11, """
            lease 0 1 = #
            end # = 0
            """), """
            lease 0 500000 = 11
            index 200 = 100
            """, Script.counting(58, "pass 60", 60, 60), """
            pass 30 = 3510
            """, Script.counting(9, "heat 1000000", 1000000, 1000000), """
            heat 999999 = 9999999
            pass 30 = 3540
            """, Script.counting(10, "heat 1000000", 1000000, 1000000), """
            income 11 118 1000000 = 0
            pass 30 = 3570
            heat 999999 = 999999
            """, Script.counting(9, "heat 1000000", 1999999, 1000000), """
            heat 1 = 10000000
            report 0 0 = 0
            income 11 119 333334 = 0
            pass 30 = 3600
            text 11 117 = 'L11 M117 R10.000,00 X0,00 B8.000,00 H99.999,99 T101.999,99'
            text 11 118 = 'L11 M118 R10.000,00 X0,00 B7.000,00 H100.000,00 T103.000,00'
            text 11 119 = 'L11 M119 R10.000,00 X2.700,00 B5.840,00 H100.000,00 T101.460,00'
            line 11 119 61 = 48
            line 11 119 62 = 48
            line 11 119 63 = 32
            line 11 119 64 = 32
            """);
    }

    private static void allTogether(Sentences s) {
        s.holds("Terms", "(the rent, less what it is lowered by, less the benefit, and the heat)",
            "one cent of each; an income told late changes the line", """
            flat 1 = 0
            lease 0 100 = 0
            pass 56 = 56
            report 0 0 = 0
            heat 1 = 1
            pass 4 = 60
            text 0 1 = 'L0 M1 R1,00 X0,01 B0,79 H0,01 T0,21'
            income 0 1 330 = 79
            text 0 1 = 'L0 M1 R1,00 X0,01 B0,00 H0,01 T1,00'
            income 0 1 329 = -1
            text 0 1 = 'L0 M1 R1,00 X0,01 B0,01 H0,01 T0,99'
            owes 0 = 99
            """);
    }

    private static void line(Sentences s) {
        s.holds("line", "Returns a sign of the line of a bill.",
            "letters, digits, blanks and commas by their numbers", ONE_BILL, """
            text 0 1 = 'L0 M1 R10,00 X0,00 B8,00 H0,00 T2,00'
            line 0 1 0 = 76
            line 0 1 1 = 48
            line 0 1 2 = 32
            line 0 1 3 = 77
            line 0 1 4 = 49
            line 0 1 5 = 32
            line 0 1 6 = 82
            line 0 1 9 = 44
            line 0 1 13 = 88
            line 0 1 19 = 66
            line 0 1 25 = 72
            line 0 1 31 = 84
            """);
        s.holds("line", "lease: a lease", "the first and the last", """
            flat 1 = 0
            flat 1 = 1
            lease 0 10 = 0
            lease 1 20 = 1
            pass 60 = 60
            line -1 1 0 = IOOBE
            line 0 1 1 = 48
            line 1 1 1 = 49
            line 2 1 0 = IOOBE
            """);
        s.holds("line", "month: 0 to the month of now", "at both ends and beyond", ONE_BILL, """
            line 0 -1 0 = IOOBE
            line 0 0 0 = 32
            line 0 1 0 = 76
            line 0 2 0 = 32
            line 0 3 0 = IOOBE
            """);
        s.holds("line", "place: from 0 on",
            "from the first sign to the farthest place, and below", ONE_BILL, """
            line 0 1 LEAST = IOOBE
            line 0 1 -1 = IOOBE
            line 0 1 0 = 76
            line 0 1 1 = 48
            line 0 1 MOST = 32
            """);
    }

    private static void blanks(Sentences s) {
        s.holds("line", "a blank behind its end", "the last sign, and the places behind it", ONE_BILL, """
            line 0 1 31 = 84
            line 0 1 34 = 48
            line 0 1 35 = 48
            line 0 1 36 = 32
            line 0 1 37 = 32
            line 0 1 1000000 = 32
            line 0 1 MOST = 32
            """);
        s.holds("line", "and without a bill",
            "the month ahead of the first, the month of now, and the month behind the last", ONE_BILL, """
            line 0 0 0 = 32
            line 0 0 5 = 32
            line 0 0 MOST = 32
            line 0 2 0 = 32
            end 0 = 2
            pass 60 = 120
            line 0 2 0 = 76
            line 0 3 0 = 32
            line 0 3 1 = 32
            line 0 4 0 = 32
            line 0 4 MOST = 32
            """);
    }

    private static void refused(Sentences s) {
        s.holds("line", "Throws IndexOutOfBoundsException if there is no such lease or month, or place is below 0",
            "each of them alone, and together", """
            line 0 0 0 = IOOBE
            """, ONE_BILL, """
            line LEAST 1 0 = IOOBE
            line MOST 1 0 = IOOBE
            line 1 1 0 = IOOBE
            line 0 LEAST 0 = IOOBE
            line 0 MOST 0 = IOOBE
            line 0 3 0 = IOOBE
            line 0 1 LEAST = IOOBE
            line 0 1 -1 = IOOBE
            line 0 0 -1 = IOOBE
            line 0 2 -1 = IOOBE
            line 1 3 -1 = IOOBE
            line -1 -1 -1 = IOOBE
            line 0 1 0 = 76
            """);
    }
}
