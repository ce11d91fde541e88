/** Promises 10 to 13. */
public final class IncomesAndPlansTest {
    private IncomesAndPlansTest() {
    }

    public static void main(String[] args) {
        Script script = new Script();
        income(script);
        incomeOfMonths(script);
        paidAhead(script);
        aheadOfLittle(script);
        pay(script);
        plan(script);
        pass(script);
        script.close();
    }

    private static void income(Script script) {
        script.due("10 income", """
            income 0 0 0 = IOOBE
            flat 3 = 0
            lease 0 100000 = 0
            income -1 0 0 = IOOBE
            income 1 0 0 = IOOBE
            income 1 0 -1 = IOOBE
            income 0 -1 0 = IOOBE
            income 0 1 0 = IOOBE
            income 0 1 -1 = IOOBE
            income 0 MOST 0 = IOOBE
            income 0 LEAST 0 = IOOBE
            income 0 0 -1 = IAE
            income 0 0 1000001 = IAE
            income 0 0 LEAST = IAE
            income 0 0 MOST = IAE
            pass 60 = 60
            income 0 1 -1 = IAE
            owes 0 = 20000
            desk 0 = -80000
            income 0 0 100000 = 10000
            owes 0 = 30000
            desk 0 = -90000
            owner = 60000
            bill 0 1 2 = 70000
            income 0 0 100000 = 0
            income 0 3 0 = IOOBE
            income 0 0 1000000 = 70000
            bill 0 1 2 = 0
            owes 0 = 100000
            income 0 0 0 = -80000
            owes 0 = 20000
            desk 0 = -80000
            """);
        script.due("10 the roundings of the benefit", """
            flat 1 = 0
            lease 0 19 = 0
            pass 60 = 60
            bill 0 1 2 = 15
            income 0 1 13 = 0
            bill 0 1 2 = 15
            income 0 1 16 = 0
            income 0 1 17 = 1
            bill 0 1 2 = 14
            income 0 1 19 = 0
            income 0 1 20 = 1
            income 0 1 63 = 12
            bill 0 1 2 = 1
            income 0 1 64 = 1
            bill 0 1 2 = 0
            income 0 1 1000000 = 0
            bill 0 1 2 = 0
            """);
    }

    private static void incomeOfMonths(Script script) {
        script.due("10 an income holds up to the next month for which one is told", """
            flat 1 = 0
            lease 0 1000 = 0
            pass 60 = 60
            pass 60 = 120
            owes 0 = 600
            income 0 2 2000 = 800
            owes 0 = 1400
            income 0 1 1000 = 100
            bill 0 1 2 = 700
            bill 0 2 2 = 400
            bill 0 3 2 = 400
            income 0 3 0 = -400
            bill 0 3 2 = 800
            income 0 2 3000 = 300
            bill 0 2 2 = 100
            bill 0 3 2 = 800
            owes 0 = 1400
            owesAnew 0 = 1400
            desk 0 = -1600
            pass 30 = 150
            bill 0 4 2 = 800
            desk 0 = -800
            pass 30 = 180
            desk 0 = -800
            """);
        script.due("10 told in a month, the bill of the month knows it", """
            flat 1 = 0
            lease 0 1000 = 0
            pass 59 = 59
            income 0 1 2000 = 0
            owes 0 = 0
            desk 0 = -800
            pass 1 = 60
            bill 0 1 2 = 400
            owes 0 = 600
            desk 0 = -400
            pass 30 = 90
            bill 0 2 2 = 400
            desk 0 = -400
            """);
        script.due("10 of the lowered rent, and of the months in which the lease ran", """
            flat 1 = 0
            lease 0 1000 = 0
            lease 0 1000 = ISE
            report 0 0 = 0
            pass 60 = 60
            end 0 = 2
            pass 60 = 120
            bill 0 1 1 = 300
            bill 0 2 1 = 300
            bill 0 1 2 = 560
            bill 0 2 2 = 560
            income 0 0 1000 = 320
            bill 0 1 2 = 400
            bill 0 2 2 = 400
            bill 0 3 2 = -1
            income 0 3 5000 = 0
            owes 0 = 600
            """);
    }

    private static void paidAhead(Script script) {
        script.due("10 the desk pays ahead what it owes still, less what it paid too much", """
            flat 1 = 0
            lease 0 1000 = 0
            pass 30 = 30
            desk 0 = -800
            owner = 800
            pass 60 = 90
            desk 0 = -800
            income 0 2 4000 = 800
            desk 0 = -1600
            income 0 3 2000 = 0
            pass 30 = 120
            desk 0 = -1200
            pass 30 = 150
            desk 0 = -800
            pass 30 = 180
            desk 0 = -400
            pass 30 = 210
            desk 0 = -400
            income 0 1 0 = 0
            income 0 2 0 = -800
            desk 0 = 400
            pass 30 = 240
            desk 0 = -400
            """);
        script.due("10 the desk pays nothing, if nothing is due together", """
            flat 1 = 0
            lease 0 1000 = 0
            income 0 0 4000 = 0
            pass 60 = 60
            desk 0 = 0
            owner = -1000
            pass 30 = 90
            desk 0 = 0
            owes 0 = 2000
            """);
    }

    private static void aheadOfLittle(Script script) {
        script.due("10 the desk pays a single cent ahead too", """
            flat 1 = 0
            lease 0 2 = 0
            pass 30 = 30
            desk 0 = -1
            owner = 1
            pass 30 = 60
            desk 0 = -1
            owes 0 = 1
            owner = 0
            """);
    }

    private static void pay(Script script) {
        script.due("11 pay", """
            pay 0 1 = IOOBE
            flat 1 = 0
            lease 0 1000 = 0
            pay -1 0 = IOOBE
            pay 1 0 = IOOBE
            pay MOST 1 = IOOBE
            pay 0 0 = IAE
            pay 0 -1 = IAE
            pay 0 1000001 = IAE
            pay 0 LEAST = IAE
            pay 0 MOST = IAE
            pay 0 1000000 = -1000000
            owner = 1000000
            pay 0 1 = -1000001
            owes 0 = -1000001
            pass 60 = 60
            owes 0 = -999801
            owesAnew 0 = -999801
            owner = 1000601
            desk 0 = -800
            """);
    }

    private static void plan(Script script) {
        script.due("12 plan", """
            plan 0 1 = IOOBE
            flat 1 = 0
            lease 0 1000 = 0
            plan -1 0 = IOOBE
            plan 1 0 = IOOBE
            plan 0 0 = IAE
            plan 0 13 = IAE
            plan 0 LEAST = IAE
            plan 0 MOST = IAE
            plan 0 1 = ISE
            planOf 0 = 0
            pass 60 = 60
            owes 0 = 200
            plan 0 3 = 67
            plan 0 3 = ISE
            plan 0 13 = IAE
            plan 1 3 = IOOBE
            planOf 0 = 1
            pay 0 66 = 134
            pass 29 = 89
            planOf 0 = 1
            pass 1 = 90
            planOf 0 = 2
            owes 0 = 334
            plan 0 2 = 167
            planOf 0 = 1
            pay 0 167 = 167
            pass 30 = 120
            planOf 0 = 1
            owes 0 = 367
            pay 0 367 = 0
            plan 0 2 = ISE
            pass 30 = 150
            planOf 0 = 3
            plan 0 12 = 17
            planOf 0 = 1
            pay 0 200 = 0
            pass 30 = 180
            planOf 0 = 1
            pass 30 = 210
            planOf 0 = 2
            """);
        script.due("12 nothing is owed", """
            flat 1 = 0
            lease 0 1000 = 0
            pass 60 = 60
            pay 0 199 = 1
            plan 0 12 = 1
            pay 0 1 = 0
            pass 30 = 90
            planOf 0 = 3
            pay 0 200 = 0
            plan 0 1 = ISE
            pay 0 1 = -1
            plan 0 1 = ISE
            planOf 0 = 3
            """);
        script.due("12 parts that are rounded up end earlier", """
            flat 1 = 0
            lease 0 0 = 0
            pass 30 = 30
            heat 5 = 5
            pass 30 = 60
            owes 0 = 5
            plan 0 12 = 1
            pay 0 5 = 0
            pass 60 = 120
            pass 60 = 180
            planOf 0 = 1
            pass 30 = 210
            planOf 0 = 3
            """);
        script.due("12 a plan of a lease that does not run any more", """
            flat 1 = 0
            lease 0 1000 = 0
            pass 60 = 60
            end 0 = 2
            plan 0 2 = 100
            pay 0 100 = 100
            pass 30 = 90
            planOf 0 = 1
            owes 0 = 300
            pay 0 300 = 0
            pass 30 = 120
            planOf 0 = 3
            """);
        script.due("12 the bills of earlier months count, even when the lease is over", """
            flat 1 = 0
            lease 0 1000 = 0
            pass 60 = 60
            end 0 = 2
            plan 0 2 = 100
            pay 0 200 = 0
            pass 30 = 90
            planOf 0 = 1
            owes 0 = 200
            pass 30 = 120
            planOf 0 = 2
            """);
        script.due("12 an income told late can break a plan", """
            flat 1 = 0
            lease 0 1000 = 0
            pass 60 = 60
            plan 0 1 = 200
            pay 0 200 = 0
            income 0 1 700 = 10
            pass 30 = 90
            planOf 0 = 2
            """);
    }

    private static void pass(Script script) {
        script.due("13 pass", """
            pass 0 = IAE
            pass 61 = IAE
            pass -1 = IAE
            pass LEAST = IAE
            pass MOST = IAE
            pass 1 = 1
            pass 59 = 60
            """, Script.counting(58, "pass 60", 120, 60), """
            pass 50 = 3590
            pass 11 = ISE
            pass 60 = ISE
            pass 61 = IAE
            pass 9 = 3599
            pass 2 = ISE
            pass 1 = 3600
            pass 1 = ISE
            pass 60 = ISE
            pass 0 = IAE
            pass 61 = IAE
            """);
        script.due("13 the last month begins", """
            flat 1 = 0
            lease 0 1000 = 0
            """, Script.counting(60, "pass 60", 60, 60), """
            bill 0 119 0 = 1000
            bill 0 120 0 = -1
            bill 0 121 0 = IOOBE
            owes 0 = 23800
            owesAnew 0 = 23800
            desk 0 = -800
            owner = -23000
            use 0 119 = 0
            use 0 120 = -1
            index 70 = 100
            heat 5 = 5
            income 0 120 5 = 0
            read 0 5 = 5
            end 0 = 120
            lease 0 5 = 1
            pass 1 = ISE
            """);
        script.due("13 days that pass at once are days that pass one by one", """
            flat 1 = 0
            flat 2 = 1
            lease 0 1000 = 0
            lease 1 2000 = 1
            report 0 0 = 0
            report 1 1 = 1
            heat 9 = 9
            """, Script.counting(60, "pass 1", 1, 1), """
            bill 0 1 1 = 300
            bill 1 1 1 = 200
            """);
    }
}
