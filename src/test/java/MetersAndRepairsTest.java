/** Promises 6 to 9, with the sharing of heat and what rents are lowered by. */
public final class MetersAndRepairsTest {
    private MetersAndRepairsTest() {
    }

    public static void main(String[] args) {
        Script script = new Script();
        read(script);
        heat(script);
        sharedHeat(script);
        report(script);
        loweredRent(script);
        mend(script);
        script.close();
    }

    private static void read(Script script) {
        script.due("6 read", """
            read 0 0 = IOOBE
            read 0 -1 = IOOBE
            flat 1 = 0
            flat 1 = 1
            read -1 5 = IOOBE
            read 2 5 = IOOBE
            read 2 -5 = IOOBE
            read MOST 5 = IOOBE
            read 0 -1 = IAE
            read 0 1000001 = IAE
            read 0 LEAST = IAE
            read 0 MOST = IAE
            read 0 0 = 0
            read 0 70 = 70
            read 0 69 = IAE
            read 0 70 = 0
            read 0 100 = 30
            read 1 1000000 = 1000000
            read 1 1000001 = IAE
            read 1 999999 = IAE
            read 1 1000000 = 0
            pass 30 = 30
            read 0 99 = IAE
            read 0 101 = 1
            pass 30 = 60
            use 0 0 = 100
            use 0 1 = 1
            use 1 0 = 1000000
            use 1 1 = 1000000
            """);
        script.due("6 a reading that is refused is none", """
            flat 1 = 0
            read 0 30 = 30
            pass 30 = 30
            read 0 29 = IAE
            read 0 1000001 = IAE
            pass 30 = 60
            use 0 1 = 30
            """);
    }

    private static void heat(Script script) {
        script.due("7 heat", """
            heat 0 = IAE
            heat -1 = IAE
            heat 1000001 = IAE
            heat LEAST = IAE
            heat MOST = IAE
            heat 1 = 1
            heat 1000000 = 1000001
            heat 1000000 = 2000001
            heat 1000000 = 3000001
            heat 1000000 = 4000001
            heat 1000000 = 5000001
            heat 1000000 = 6000001
            heat 1000000 = 7000001
            heat 1000000 = 8000001
            heat 1000000 = 9000001
            heat 1000000 = ISE
            heat 1000001 = IAE
            heat 999999 = 10000000
            heat 1 = ISE
            heat 0 = IAE
            pass 29 = 29
            heat 1 = ISE
            pass 1 = 30
            heat 7 = 7
            heat 8 = 15
            """);
        script.due("7 all of the most", """
            flat 1 = 0
            lease 0 0 = 0
            pass 30 = 30
            """, Script.counting(9, "heat 1000000", 1000000, 1000000), """
            heat 1000000 = 10000000
            heat 1 = ISE
            pass 30 = 60
            bill 0 1 3 = 10000000
            owes 0 = 10000000
            """);
    }

    private static void sharedHeat(Script script) {
        script.due("7 without a lease that runs nobody bears it", """
            flat 1 = 0
            lease 0 0 = 0
            heat 1000 = 1000
            pass 30 = 30
            owner = 0
            owes 0 = 0
            end 0 = 1
            pass 30 = 60
            heat 500 = 500
            pass 30 = 90
            owes 0 = 0
            owner = 0
            """);
        script.due("7 what is left goes to the lower number", """
            flat 4 = 0
            flat 4 = 1
            flat 4 = 2
            lease 2 0 = 0
            lease 0 0 = 1
            lease 1 0 = 2
            pass 30 = 30
            heat 10 = 10
            pass 30 = 60
            bill 0 1 3 = 4
            bill 1 1 3 = 3
            bill 2 1 3 = 3
            heat 11 = 11
            pass 30 = 90
            bill 0 2 3 = 4
            bill 1 2 3 = 4
            bill 2 2 3 = 3
            """);
        script.due("7 what is left goes to the greatest remainders", """
            flat 1 = 0
            flat 1 = 1
            lease 0 0 = 0
            lease 1 0 = 1
            pass 30 = 30
            read 0 3 = 3
            read 1 1 = 1
            heat 9 = 9
            pass 30 = 60
            bill 0 1 3 = 6
            bill 1 1 3 = 3
            """);
        script.due("7 flats without a lease bear nothing", """
            flat 1 = 0
            flat 9 = 1
            flat 1 = 2
            lease 0 0 = 0
            lease 2 0 = 1
            pass 30 = 30
            read 0 10 = 10
            read 1 500 = 500
            read 2 30 = 30
            heat 100 = 100
            pass 30 = 60
            bill 0 1 3 = 33
            bill 1 1 3 = 67
            """);
        script.due("7 by rooms alone, if only a flat without a lease has a use", """
            flat 1 = 0
            flat 9 = 1
            flat 3 = 2
            lease 0 0 = 0
            lease 2 0 = 1
            read 1 500 = 500
            pass 30 = 30
            heat 100 = 100
            pass 30 = 60
            bill 0 1 3 = 25
            bill 1 1 3 = 75
            """);
        script.due("7 a use of nothing bears by rooms alone", """
            flat 1 = 0
            flat 1 = 1
            lease 0 0 = 0
            lease 1 0 = 1
            pass 30 = 30
            read 0 1 = 1
            heat 10 = 10
            pass 30 = 60
            bill 0 1 3 = 9
            bill 1 1 3 = 1
            owner = -10
            """);
    }

    private static void report(Script script) {
        script.due("8 report", """
            report 0 0 = IOOBE
            report 0 9 = IOOBE
            flat 1 = 0
            report 1 0 = IOOBE
            report -1 0 = IOOBE
            report 1 3 = IOOBE
            report 0 -1 = IAE
            report 0 3 = IAE
            report 0 LEAST = IAE
            report 0 MOST = IAE
            report 0 0 = 0
            report 0 2 = 1
            report 0 1 = 2
            pass 3 = 3
            points 0 = 0
            pass 1 = 4
            points 0 = 30
            pass 4 = 8
            points 0 = 150
            pass 1 = 9
            points 0 = 190
            pass 21 = 30
            points 0 = 0
            mend 0 = 27
            mend 2 = 22
            pass 1 = 31
            points 0 = 0
            pass 1 = 32
            points 0 = 5
            pass 10 = 42
            points 0 = 55
            mend 1 = 11
            """);
        script.due("8 no more than sixty", """
            flat 1 = 0
            """, Script.repeat(60, "report 0 2 = #"), """
            report 0 2 = ISE
            report 0 3 = IAE
            report 1 0 = IOOBE
            mend 59 = 0
            mend 60 = IOOBE
            report 0 2 = ISE
            """);
        script.due("8 of its own flat", """
            flat 1 = 0
            flat 1 = 1
            pass 10 = 10
            report 1 1 = 0
            pass 9 = 19
            points 0 = 0
            points 1 = 10
            report 0 0 = 1
            pass 4 = 23
            points 0 = 30
            points 1 = 50
            """);
    }

    private static void loweredRent(Script script) {
        script.due("8 a rent is lowered by no more than itself", """
            flat 1 = 0
            lease 0 12345 = 0
            report 0 0 = 0
            report 0 0 = 1
            report 0 0 = 2
            report 0 0 = 3
            pass 30 = 30
            pass 30 = 60
            bill 0 1 0 = 12345
            bill 0 1 1 = 12345
            bill 0 1 2 = 0
            bill 0 1 3 = 0
            owes 0 = 0
            desk 0 = -9876
            owner = 9876
            """);
        script.due("8 a rent is lowered by points, rounded down", """
            flat 1 = 0
            lease 0 9999 = 0
            index 150 = 100
            pass 56 = 56
            report 0 0 = 0
            pass 4 = 60
            bill 0 1 1 = 149
            bill 0 1 2 = 11879
            pass 30 = 90
            bill 0 2 1 = 4499
            mend 0 = 31
            pass 30 = 120
            bill 0 3 1 = 0
            bill 0 1 1 = 149
            """);
    }

    private static void mend(Script script) {
        script.due("9 mend", """
            mend 0 = IOOBE
            flat 1 = 0
            report 0 0 = 0
            report 0 0 = 1
            mend -1 = IOOBE
            mend 2 = IOOBE
            mend LEAST = IOOBE
            mend MOST = IOOBE
            mend 0 = 0
            mend 0 = ISE
            mend 2 = IOOBE
            pass 10 = 10
            points 0 = 210
            mend 1 = 7
            mend 1 = ISE
            pass 10 = 20
            points 0 = 210
            mend 1 = ISE
            """);
    }
}
