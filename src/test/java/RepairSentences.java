/** The sentences about repairs and lowered rents, with promises 8, 9 and 21. */
final class RepairSentences {
    private RepairSentences() {
    }

    static void all(Sentences s) {
        numbers(s);
        clocks(s);
        mendedInTime(s);
        monthEnds(s);
        lowered(s);
        noMoreThanItself(s);
        report(s);
        reportRefused(s);
        mend(s);
        points(s);
    }

    private static void numbers(Sentences s) {
        s.holds("Terms", "Repairs are numbered from 0, at most 60",
            "the fifty-ninth, the sixtieth, one more; mended ones count", """
            flat 1 = 0
            flat 1 = 1
            """, Script.repeat(58, "report 0 2 = #"), """
            mend 58 = IOOBE
            report 1 2 = 58
            mend 59 = IOOBE
            report 0 0 = 59
            report 0 0 = ISE
            mend 59 = 0
            mend 60 = IOOBE
            report 1 2 = ISE
            """);
        s.holds("Terms", "a repair is of a flat and a grade: URGENT, SOON or LATER",
            "each grade, and another flat that keeps its points", """
            flat 1 = 0
            flat 1 = 1
            report 0 -1 = IAE
            report 0 0 = 0
            report 0 1 = 1
            report 0 2 = 2
            report 0 3 = IAE
            pass 45 = 45
            points 0 = 670
            points 1 = 0
            """);
        s.holds("Terms", "Grades of repairs.", "from 0 to 2 by their points", """
            flat 1 = 0
            flat 1 = 1
            flat 1 = 2
            report 0 0 = 0
            report 1 1 = 1
            report 2 2 = 2
            pass 60 = 60
            pass 1 = 61
            points 0 = 30
            points 1 = 10
            points 2 = 5
            """);
    }

    private static void clocks(Sentences s) {
        s.holds("Terms", "It has a clock of 2, 7 or 30 days.",
            "the day on which it runs out, and the one behind", """
            flat 1 = 0
            flat 1 = 1
            flat 1 = 2
            report 0 0 = 0
            report 1 1 = 1
            report 2 2 = 2
            pass 2 = 2
            points 0 = 0
            pass 1 = 3
            points 0 = 0
            pass 1 = 4
            points 0 = 30
            pass 3 = 7
            points 1 = 0
            pass 1 = 8
            points 1 = 0
            pass 1 = 9
            points 1 = 10
            pass 21 = 30
            points 2 = 0
            pass 1 = 31
            points 2 = 0
            pass 1 = 32
            points 2 = 5
            mend 0 = 29
            mend 1 = 24
            mend 2 = 1
            """);
        s.holds("Terms", "and was reported more days ago than its clock",
            "reported on day 0 and on a later day", """
            flat 1 = 0
            flat 1 = 1
            report 0 0 = 0
            pass 1 = 1
            report 1 0 = 1
            pass 3 = 4
            points 0 = 30
            points 1 = 0
            pass 1 = 5
            points 0 = 60
            points 1 = 30
            """);
        s.holds("Terms", "it takes 30, 10 or 5 points off the flat", "some repairs of one flat together", """
            flat 1 = 0
            report 0 0 = 0
            report 0 0 = 1
            report 0 1 = 2
            report 0 1 = 3
            report 0 2 = 4
            report 0 2 = 5
            pass 31 = 31
            points 0 = 80
            pass 1 = 32
            points 0 = 170
            """);
    }

    private static void mendedInTime(Sentences s) {
        s.holds("Terms", "On each day that ends, if it was not mended",
            "mended ahead of the end of the first day that counts, and behind it", """
            flat 1 = 0
            flat 1 = 1
            report 0 0 = 0
            report 1 0 = 1
            pass 3 = 3
            mend 0 = 0
            pass 1 = 4
            mend 1 = 1
            pass 1 = 5
            points 0 = 0
            points 1 = 30
            pass 55 = 60
            points 1 = 0
            mend 1 = ISE
            """);
    }

    private static void monthEnds(Sentences s) {
        s.holds("Terms", "the points of the flat in that month",
            "the first day that counts is the last of a month, or the first of the next", """
            flat 1 = 0
            flat 1 = 1
            lease 0 1000 = 0
            lease 1 1000 = 1
            pass 56 = 56
            report 0 0 = 0
            pass 1 = 57
            report 1 0 = 1
            pass 2 = 59
            points 0 = 0
            points 1 = 0
            pass 1 = 60
            points 0 = 0
            bill 0 1 1 = 10
            bill 1 1 1 = 0
            pass 1 = 61
            points 0 = 30
            points 1 = 30
            pass 29 = 90
            bill 0 2 1 = 300
            bill 1 2 1 = 300
            bill 0 1 1 = 10
            """);
    }

    private static void lowered(Sentences s) {
        s.holds("Terms", "divided by 3000, rounded down", "just below, on and above a cent and two",
            Script.repeat(7, """
            flat 1 = #
            """), """
            lease 0 99 = 0
            lease 1 100 = 1
            lease 2 101 = 2
            lease 3 199 = 3
            lease 4 200 = 4
            lease 5 0 = 5
            lease 6 500000 = 6
            pass 56 = 56
            """, Script.repeat(7, "report # 0 = #"), """
            pass 4 = 60
            bill 0 1 1 = 0
            bill 1 1 1 = 1
            bill 2 1 1 = 1
            bill 3 1 1 = 1
            bill 4 1 1 = 2
            bill 5 1 1 = 0
            bill 6 1 1 = 5000
            owesAnew 3 = 40
            """);
        s.holds("Terms", "The rent of a month is lowered by itself times the points of the flat",
            "the rent by the index, which is the highest", """
            flat 1 = 0
            lease 0 500000 = 0
            index 200 = 100
            pass 56 = 56
            report 0 0 = 0
            pass 4 = 60
            bill 0 1 0 = 1000000
            bill 0 1 1 = 10000
            bill 0 1 2 = 792000
            pass 30 = 90
            bill 0 2 1 = 300000
            """);
    }

    private static void noMoreThanItself(Sentences s) {
        s.holds("Terms", "but by no more than itself", "2995, 3000 and 3005 points",
            Script.repeat(3, """
            flat 1 = #
            lease # 3001 = #
            """),
            """
            report 0 0 = 0
            report 0 0 = 1
            report 0 0 = 2
            report 1 0 = 3
            report 1 0 = 4
            report 1 0 = 5
            report 2 0 = 6
            report 2 0 = 7
            report 2 0 = 8
            pass 23 = 23
            report 0 1 = 9
            report 1 1 = 10
            report 2 1 = 11
            pass 3 = 26
            report 2 2 = 12
            pass 1 = 27
            report 1 2 = 13
            pass 1 = 28
            report 0 2 = 14
            pass 31 = 59
            points 0 = 2890
            points 1 = 2895
            points 2 = 2900
            pass 1 = 60
            bill 0 1 1 = 2995
            bill 1 1 1 = 3001
            bill 2 1 1 = 3001
            bill 0 1 2 = 4
            bill 1 1 2 = 0
            bill 2 1 2 = 0
            owes 0 = 2
            owes 1 = 0
            owes 2 = 0
            owesAnew 2 = 0
            """);
        s.holds("Terms", "but by no more than itself", "the most points, of the highest rent", """
            flat 1 = 0
            lease 0 500000 = 0
            index 200 = 100
            """, Script.repeat(60, "report 0 0 = #"), """
            pass 59 = 59
            points 0 = 52200
            pass 1 = 60
            bill 0 1 0 = 1000000
            bill 0 1 1 = 1000000
            bill 0 1 2 = 0
            owes 0 = 0
            """);
    }

    private static void report(Sentences s) {
        s.holds("report", "Reports a repair.", "without a lease, and on the last day", """
            flat 1 = 0
            """, Script.counting(60, "pass 60", 60, 60), """
            report 0 0 = 0
            points 0 = 0
            mend 0 = 0
            """);
        s.holds("report", "flat: a flat", "the first and the last", """
            flat 1 = 0
            flat 1 = 1
            report -1 0 = IOOBE
            report 2 0 = IOOBE
            report 0 0 = 0
            report 1 0 = 1
            """);
        s.holds("report", "grade: URGENT to LATER", "at both ends and beyond", """
            flat 1 = 0
            report 0 -1 = IAE
            report 0 0 = 0
            report 0 1 = 1
            report 0 2 = 2
            report 0 3 = IAE
            """);
        s.holds("report", "Returns its number.", "calls that throw not counted", """
            flat 1 = 0
            report 0 0 = 0
            report 0 3 = IAE
            report 1 0 = IOOBE
            report 0 0 = 1
            """);
    }

    private static void reportRefused(Sentences s) {
        String sixty = Script.repeat(60, "report 0 2 = #");
        s.holds("report", "Throws IndexOutOfBoundsException if there is no such flat",
            "ahead of both other lines", """
            report 0 0 = IOOBE
            report 0 3 = IOOBE
            flat 1 = 0
            report LEAST -1 = IOOBE
            report MOST 3 = IOOBE
            """, sixty, """
            report -1 0 = IOOBE
            report 1 0 = IOOBE
            report 1 -1 = IOOBE
            report 1 3 = IOOBE
            """);
        s.holds("report", "Throws IllegalArgumentException if grade is out of range",
            "ahead of the last line", """
            flat 1 = 0
            report 0 LEAST = IAE
            report 0 MOST = IAE
            """, sixty, """
            report 0 -1 = IAE
            report 0 3 = IAE
            report 0 LEAST = IAE
            report 0 MOST = IAE
            report 0 0 = ISE
            """);
        s.holds("report", "Throws IllegalStateException if there are 60",
            "with fifty-nine and with sixty; the refused ones take no points", """
            flat 1 = 0
            """, Script.repeat(59, "report 0 2 = #"), """
            report 0 1 = 59
            report 0 0 = ISE
            report 0 1 = ISE
            report 0 2 = ISE
            pass 9 = 9
            points 0 = 10
            report 0 0 = ISE
            mend 59 = 1
            """);
    }

    private static void mend(Sentences s) {
        s.holds("mend", "Mends.", "on the day of the report, and on the last day", """
            flat 1 = 0
            report 0 0 = 0
            report 0 2 = 1
            mend 0 = 0
            """, Script.counting(60, "pass 60", 60, 60), """
            mend 1 = 3569
            mend 0 = ISE
            """);
        s.holds("mend", "repair: a repair", "the first and the last", """
            flat 1 = 0
            report 0 0 = 0
            report 0 0 = 1
            report 0 0 = 2
            mend -1 = IOOBE
            mend 3 = IOOBE
            mend 2 = 0
            mend 0 = 0
            """);
        s.holds("mend", "Returns on how many days it took points off.",
            "none, one, and over the end of a month", """
            flat 1 = 0
            pass 26 = 26
            report 0 0 = 0
            report 0 0 = 1
            report 0 0 = 2
            report 0 1 = 3
            pass 3 = 29
            mend 0 = 0
            pass 1 = 30
            mend 1 = 1
            pass 1 = 31
            mend 2 = 2
            mend 3 = 0
            """);
        s.holds("mend", "Throws IndexOutOfBoundsException if there is no such repair",
            "just and far beyond, when others were mended", """
            mend 0 = IOOBE
            flat 1 = 0
            mend 0 = IOOBE
            report 0 0 = 0
            mend 0 = 0
            mend -1 = IOOBE
            mend 1 = IOOBE
            mend LEAST = IOOBE
            mend MOST = IOOBE
            mend 0 = ISE
            """);
        s.holds("mend", "Throws IllegalStateException if it was mended", "at once, and in a later month", """
            flat 1 = 0
            report 0 0 = 0
            report 0 0 = 1
            pass 10 = 10
            mend 0 = 7
            mend 0 = ISE
            points 0 = 420
            pass 30 = 40
            mend 0 = ISE
            points 0 = 300
            mend 1 = 37
            mend 1 = ISE
            """);
    }

    private static void points(Sentences s) {
        s.holds("points", "Returns how many points were taken off a flat in this month so far.",
            "up to the last day of a month, and on the first of the next", """
            flat 1 = 0
            report 0 0 = 0
            pass 28 = 28
            points 0 = 750
            pass 1 = 29
            points 0 = 780
            pass 1 = 30
            points 0 = 0
            pass 1 = 31
            points 0 = 30
            pass 28 = 59
            points 0 = 870
            pass 1 = 60
            points 0 = 0
            """);
        s.holds("points", "flat: a flat", "the first and the last", """
            flat 1 = 0
            flat 1 = 1
            points -1 = IOOBE
            points 0 = 0
            points 1 = 0
            points 2 = IOOBE
            """);
        s.holds("points", "Returns the points.", "those of a repair stay when it is mended", """
            flat 1 = 0
            report 0 1 = 0
            pass 10 = 10
            points 0 = 20
            mend 0 = 2
            points 0 = 20
            pass 19 = 29
            points 0 = 20
            pass 1 = 30
            points 0 = 0
            """);
        s.holds("points", "Throws IndexOutOfBoundsException if there is no such flat",
            "just and far beyond", """
            points 0 = IOOBE
            flat 1 = 0
            points LEAST = IOOBE
            points -1 = IOOBE
            points 1 = IOOBE
            points MOST = IOOBE
            points 0 = 0
            """);
    }
}
