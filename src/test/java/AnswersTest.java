/** Promises 14 to 22. */
public final class AnswersTest {
    private static final String ONE_LEASE = """
        flat 1 = 0
        lease 0 1000 = 0
        """;

    private AnswersTest() {
    }

    public static void main(String[] args) {
        Script script = new Script();
        accounts(script);
        noSuchLease(script);
        sumOfAccounts(script);
        bill(script);
        line(script);
        longLines(script);
        use(script);
        points(script);
        planOf(script);
        script.close();
    }

    private static void accounts(Script script) {
        script.due("14 to 17 the accounts", ONE_LEASE, """
            owes 0 = 0
            owesAnew 0 = 0
            desk 0 = 0
            owner = 0
            pass 30 = 30
            owes 0 = 0
            owesAnew 0 = 0
            desk 0 = -800
            owner = 800
            heat 70 = 70
            pay 0 50 = -50
            owes 0 = -50
            owesAnew 0 = -50
            owner = 850
            pass 30 = 60
            owes 0 = 220
            owesAnew 0 = 220
            desk 0 = -800
            owner = 580
            income 0 1 3000 = 700
            owes 0 = 920
            owesAnew 0 = 920
            desk 0 = -1500
            owner = 580
            pass 30 = 90
            owes 0 = 1820
            owesAnew 0 = 1820
            desk 0 = -1400
            owner = -420
            """);
        script.due("15 each month anew by its index, its points, its heat and its incomes", """
            flat 2 = 0
            flat 3 = 1
            lease 0 70001 = 0
            lease 1 50003 = 1
            index 133 = 100
            report 0 1 = 0
            read 1 70 = 70
            pass 30 = 30
            heat 9999 = 9999
            read 0 33 = 33
            index 77 = 133
            pass 40 = 70
            income 0 1 120000 = 19241
            pay 1 5000 = 14857
            mend 0 = 62
            heat 1234 = 1234
            end 1 = 2
            pass 40 = 110
            index 200 = 77
            pass 40 = 150
            owes 0 = 147752
            owesAnew 0 = 147752
            owes 1 = 23483
            owesAnew 1 = 23483
            """);
    }

    private static void noSuchLease(Script script) {
        for (String call : new String[] {"owes", "owesAnew", "desk", "planOf"}) {
            script.due("14 to 16, 22 " + call + " of no lease",
                    call + " 0 = IOOBE", ONE_LEASE,
                    call + " 0 = 0",
                    call + " -1 = IOOBE",
                    call + " 1 = IOOBE",
                    call + " LEAST = IOOBE",
                    call + " MOST = IOOBE");
        }
    }

    private static void sumOfAccounts(Script script) {
        script.due("17 all accounts together are nothing", """
            flat 2 = 0
            flat 3 = 1
            lease 0 1000 = 0
            lease 1 2000 = 1
            pass 30 = 30
            owner = 2400
            heat 100 = 100
            pass 30 = 60
            owes 0 = 240
            owes 1 = 460
            desk 0 = -800
            desk 1 = -1600
            owner = 1700
            pay 1 1000 = -540
            owner = 2700
            income 1 1 2500 = 350
            owner = 2700
            desk 1 = -1950
            owes 1 = -190
            plan 0 2 = 120
            owner = 2700
            """);
    }

    private static void bill(Script script) {
        script.due("18 bill", """
            bill 0 0 0 = IOOBE
            bill 0 0 4 = IOOBE
            flat 1 = 0
            lease 0 1000 = 0
            bill -1 0 0 = IOOBE
            bill 1 0 0 = IOOBE
            bill 1 0 4 = IOOBE
            bill 0 -1 0 = IOOBE
            bill 0 1 0 = IOOBE
            bill 0 1 4 = IOOBE
            bill 0 LEAST 0 = IOOBE
            bill 0 MOST 0 = IOOBE
            bill 0 0 -1 = IAE
            bill 0 0 4 = IAE
            bill 0 0 LEAST = IAE
            bill 0 0 MOST = IAE
            bill 0 0 0 = -1
            bill 0 0 1 = -1
            bill 0 0 2 = -1
            bill 0 0 3 = -1
            pass 30 = 30
            bill 0 0 0 = -1
            bill 0 1 0 = -1
            bill 0 2 0 = IOOBE
            report 0 0 = 0
            heat 55 = 55
            pass 29 = 59
            bill 0 1 0 = -1
            pass 1 = 60
            bill 0 1 0 = 1000
            bill 0 1 1 = 270
            bill 0 1 2 = 584
            bill 0 1 3 = 55
            bill 0 1 4 = IAE
            bill 0 1 -1 = IAE
            bill 0 0 0 = -1
            bill 0 2 0 = -1
            bill 0 3 0 = IOOBE
            end 0 = 2
            pass 60 = 120
            bill 0 2 3 = 0
            bill 0 3 0 = -1
            bill 0 3 3 = -1
            bill 0 1 1 = 270
            """);
    }

    private static void line(Script script) {
        script.due("19 line", """
            line 0 0 0 = IOOBE
            line 0 0 -1 = IOOBE
            flat 1 = 0
            lease 0 7 = 0
            line -1 0 0 = IOOBE
            line 1 0 0 = IOOBE
            line 0 -1 0 = IOOBE
            line 0 1 0 = IOOBE
            line 0 0 -1 = IOOBE
            line 0 0 LEAST = IOOBE
            line 0 0 0 = 32
            line 0 0 MOST = 32
            text 0 0 = ''
            pass 30 = 30
            heat 99999 = 99999
            text 0 1 = ''
            pass 30 = 60
            text 0 1 = 'L0 M1 R0,07 X0,00 B0,05 H999,99 T1.000,01'
            line 0 1 0 = 76
            line 0 1 2 = 32
            line 0 1 3 = 77
            line 0 1 40 = 49
            line 0 1 41 = 32
            line 0 1 MOST = 32
            line 0 1 -1 = IOOBE
            line 0 1 LEAST = IOOBE
            line 0 3 0 = IOOBE
            line 0 3 -1 = IOOBE
            text 0 2 = ''
            end 0 = 2
            pass 60 = 120
            text 0 2 = 'L0 M2 R0,07 X0,00 B0,05 H0,00 T0,02'
            text 0 3 = ''
            income 0 2 20 = 4
            text 0 2 = 'L0 M2 R0,07 X0,00 B0,01 H0,00 T0,06'
            """);
        script.due("19 the dots", """
            flat 1 = 0
            lease 0 100 = 0
            index 200 = 100
            pass 30 = 30
            heat 1000000 = 1000000
            heat 7 = 1000007
            pass 30 = 60
            text 0 1 = 'L0 M1 R2,00 X0,00 B1,60 H10.000,07 T10.000,47'
            heat 100000 = 100000
            pass 30 = 90
            text 0 2 = 'L0 M2 R2,00 X0,00 B1,60 H1.000,00 T1.000,40'
            heat 107009 = 107009
            pass 30 = 120
            text 0 3 = 'L0 M3 R2,00 X0,00 B1,60 H1.070,09 T1.070,49'
            heat 10 = 10
            pass 30 = 150
            text 0 4 = 'L0 M4 R2,00 X0,00 B1,60 H0,10 T0,50'
            """);
    }

    private static void longLines(Script script) {
        script.due("19 the longest line", """
            flat 1 = 0
            """, Script.repeat(11, """
            lease 0 5 = #
            end # = 0
            """), """
            lease 0 500000 = 11
            index 200 = 100
            """, Script.counting(59, "pass 60", 60, 60), """
            pass 30 = 3570
            """, Script.counting(10, "heat 1000000", 1000000, 1000000), """
            report 0 0 = 0
            pass 30 = 3600
            text 11 119 = 'L11 M119 R10.000,00 X2.700,00 B5.840,00 H100.000,00 T101.460,00'
            text 11 99 = 'L11 M99 R10.000,00 X0,00 B8.000,00 H0,00 T2.000,00'
            text 10 99 = ''
            """);
    }

    private static void use(Script script) {
        script.due("20 use", """
            use 0 0 = IOOBE
            flat 1 = 0
            use -1 0 = IOOBE
            use 1 0 = IOOBE
            use LEAST 0 = IOOBE
            use MOST 0 = IOOBE
            use 0 -1 = IOOBE
            use 0 1 = IOOBE
            use 0 LEAST = IOOBE
            use 0 MOST = IOOBE
            use 0 0 = -1
            read 0 10 = 10
            pass 29 = 29
            use 0 0 = -1
            pass 1 = 30
            use 0 0 = 10
            use 0 1 = -1
            use 0 2 = IOOBE
            pass 60 = 90
            use 0 1 = 10
            use 0 2 = 10
            read 0 10 = 0
            pass 30 = 120
            use 0 3 = 0
            pass 30 = 150
            use 0 4 = 6
            read 0 90 = 80
            read 0 100 = 10
            pass 30 = 180
            use 0 5 = 64
            pass 30 = 210
            use 0 6 = 23
            use 0 0 = 10
            """);
        script.due("20 a guess by fewer than three months", """
            pass 75 = IAE
            pass 60 = 60
            flat 1 = 0
            use 0 0 = -1
            use 0 1 = -1
            use 0 2 = -1
            pass 30 = 90
            use 0 1 = -1
            use 0 2 = 0
            read 0 9 = 9
            pass 60 = 150
            use 0 3 = 9
            use 0 4 = 4
            pass 30 = 180
            use 0 5 = 4
            pass 30 = 210
            use 0 6 = 5
            """);
        script.due("20 a guess is counted", """
            flat 1 = 0
            read 0 10 = 10
            pass 60 = 60
            read 0 25 = 15
            pass 30 = 90
            use 0 1 = 10
            use 0 2 = 5
            read 0 25 = 0
            pass 30 = 120
            use 0 3 = 0
            """);
    }

    private static void points(Script script) {
        script.due("21 points", """
            points 0 = IOOBE
            flat 1 = 0
            flat 1 = 1
            points -1 = IOOBE
            points 2 = IOOBE
            points LEAST = IOOBE
            points MOST = IOOBE
            report 1 0 = 0
            report 1 1 = 1
            pass 9 = 9
            points 0 = 0
            points 1 = 190
            pass 20 = 29
            points 1 = 990
            pass 1 = 30
            points 1 = 0
            pass 1 = 31
            points 1 = 40
            points 2 = IOOBE
            """);
    }

    private static void planOf(Script script) {
        script.due("22 the latest plan counts", """
            flat 1 = 0
            lease 0 1000 = 0
            planOf 0 = 0
            pass 60 = 60
            planOf 0 = 0
            plan 0 1 = 200
            planOf 0 = 1
            pass 30 = 90
            planOf 0 = 2
            plan 0 2 = 200
            planOf 0 = 1
            pay 0 600 = -200
            pass 30 = 120
            planOf 0 = 1
            pass 30 = 150
            planOf 0 = 3
            pay 0 100 = 100
            plan 0 1 = 100
            planOf 0 = 1
            """);
    }
}
