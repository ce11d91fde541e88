/** The sentences about exceptions that hold for all methods. */
final class ExceptionSentences {
    private static final String ONE_OF_ALL = """
        flat 1 = 0
        lease 0 1000 = 0
        report 0 2 = 0
        pass 60 = 60
        """;

    private ExceptionSentences() {
    }

    static void all(Sentences s) {
        noSuch(s);
        outOfRange(s);
        states(s);
        firstLine(s);
    }

    private static void noSuch(Sentences s) {
        s.holds("Terms", "IndexOutOfBoundsException: there is no such flat, lease, repair, month or place.",
            "one below each, and one above", ONE_OF_ALL, """
            lease -1 5 = IOOBE
            lease 1 5 = IOOBE
            read -1 5 = IOOBE
            read 1 5 = IOOBE
            report -1 0 = IOOBE
            report 1 0 = IOOBE
            use -1 1 = IOOBE
            use 1 1 = IOOBE
            points -1 = IOOBE
            points 1 = IOOBE
            end -1 = IOOBE
            end 1 = IOOBE
            income -1 1 5 = IOOBE
            income 1 1 5 = IOOBE
            pay -1 5 = IOOBE
            pay 1 5 = IOOBE
            plan -1 1 = IOOBE
            plan 1 1 = IOOBE
            owes -1 = IOOBE
            owes 1 = IOOBE
            owesAnew -1 = IOOBE
            owesAnew 1 = IOOBE
            desk -1 = IOOBE
            desk 1 = IOOBE
            bill -1 1 0 = IOOBE
            bill 1 1 0 = IOOBE
            line -1 1 0 = IOOBE
            line 1 1 0 = IOOBE
            planOf -1 = IOOBE
            planOf 1 = IOOBE
            mend -1 = IOOBE
            mend 1 = IOOBE
            income 0 -1 5 = IOOBE
            income 0 3 5 = IOOBE
            bill 0 -1 0 = IOOBE
            bill 0 3 0 = IOOBE
            line 0 -1 0 = IOOBE
            line 0 3 0 = IOOBE
            use 0 -1 = IOOBE
            use 0 3 = IOOBE
            line 0 1 -1 = IOOBE
            """);
    }

    private static void outOfRange(Sentences s) {
        s.holds("Terms", "IllegalArgumentException: another argument is out of its range.",
            "one below each range, and one above", ONE_OF_ALL, """
            flat 0 = IAE
            flat 10 = IAE
            lease 0 -1 = IAE
            lease 0 500001 = IAE
            index 49 = IAE
            index 201 = IAE
            read 0 -1 = IAE
            read 0 1000001 = IAE
            heat 0 = IAE
            heat 1000001 = IAE
            report 0 -1 = IAE
            report 0 3 = IAE
            income 0 1 -1 = IAE
            income 0 1 1000001 = IAE
            pay 0 0 = IAE
            pay 0 1000001 = IAE
            plan 0 0 = IAE
            plan 0 13 = IAE
            pass 0 = IAE
            pass 61 = IAE
            bill 0 1 -1 = IAE
            bill 0 1 4 = IAE
            """);
    }

    private static void states(Sentences s) {
        s.holds("Terms", "IllegalStateException: as the method says.",
            "each of them, with arguments that are in their ranges", """
            flat 1 = 0
            """, Script.repeat(60, "report 0 0 = #"), Script.repeat(11, """
            lease 0 1 = #
            lease 0 1 = ISE
            end # = 0
            end # = ISE
            """), """
            lease 0 1000 = 11
            flat 1 = 1
            flat 1 = 2
            flat 1 = 3
            flat 1 = 4
            flat 1 = 5
            flat 1 = 6
            flat 1 = 7
            flat 1 = ISE
            lease 1 1 = ISE
            report 0 0 = ISE
            mend 0 = 0
            mend 0 = ISE
            plan 11 1 = ISE
            pass 30 = 30
            """, Script.counting(10, "heat 1000000", 1000000, 1000000), """
            heat 1 = ISE
            """, Script.counting(59, "pass 60", 90, 60), """
            pass 30 = 3600
            pass 1 = ISE
            plan 11 1 = 10000000
            plan 11 1 = ISE
            """);
    }

    private static void firstLine(Sentences s) {
        s.holds("Terms", "The first line of a method's throws clause that applies decides",
            "each pair of lines, and all three", """
            flat 1 = 0
            """, Script.repeat(60, "report 0 0 = #"), Script.repeat(12, """
            lease 0 1000 = #
            end # = 0
            """), """
            flat 1 = 1
            flat 1 = 2
            flat 1 = 3
            flat 1 = 4
            flat 1 = 5
            flat 1 = 6
            flat 1 = 7
            flat 0 = IAE
            flat 10 = IAE
            lease 8 -1 = IOOBE
            lease 8 1 = IOOBE
            lease 0 -1 = IAE
            lease -1 500001 = IOOBE
            lease 0 500001 = IAE
            end 12 = IOOBE
            end -1 = IOOBE
            read 8 -1 = IOOBE
            read -1 1000001 = IOOBE
            report 8 3 = IOOBE
            report 8 0 = IOOBE
            report 0 3 = IAE
            report -1 -1 = IOOBE
            report 0 -1 = IAE
            mend 60 = IOOBE
            mend -1 = IOOBE
            income 12 0 -1 = IOOBE
            income 0 1 -1 = IOOBE
            income -1 -1 1000001 = IOOBE
            pay 12 0 = IOOBE
            pay -1 1000001 = IOOBE
            plan 12 0 = IOOBE
            plan 12 1 = IOOBE
            plan 0 0 = IAE
            plan -1 13 = IOOBE
            plan 0 13 = IAE
            bill 12 0 4 = IOOBE
            bill 0 1 -1 = IOOBE
            """, Script.counting(10, "heat 1000000", 1000000, 1000000), """
            heat 0 = IAE
            heat 1000001 = IAE
            """, Script.counting(60, "pass 60", 60, 60), """
            pass 0 = IAE
            pass 61 = IAE
            """);
    }
}
