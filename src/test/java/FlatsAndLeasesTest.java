/** Promises 1 to 5. */
public final class FlatsAndLeasesTest {
    private FlatsAndLeasesTest() {
    }

    public static void main(String[] args) {
        Script script = new Script();
        newObject(script);
        flat(script);
        lease(script);
        end(script);
        index(script);
        script.close();
    }

    private static void newObject(Script script) {
        script.due("1 a new object has nothing", """
            lease 0 1 = IOOBE
            end 0 = IOOBE
            read 0 0 = IOOBE
            report 0 0 = IOOBE
            mend 0 = IOOBE
            income 0 0 0 = IOOBE
            pay 0 1 = IOOBE
            plan 0 1 = IOOBE
            owes 0 = IOOBE
            owesAnew 0 = IOOBE
            desk 0 = IOOBE
            bill 0 0 0 = IOOBE
            line 0 0 0 = IOOBE
            use 0 0 = IOOBE
            points 0 = IOOBE
            planOf 0 = IOOBE
            owner = 0
            index 100 = 100
            heat 1 = 1
            flat 1 = 0
            points 0 = 0
            lease 0 1 = 0
            owes 0 = 0
            owesAnew 0 = 0
            desk 0 = 0
            planOf 0 = 0
            use 0 0 = -1
            use 0 1 = IOOBE
            pass 1 = 1
            """);
        script.due("1 its first day is the first of a month", """
            flat 1 = 0
            pass 29 = 29
            use 0 0 = -1
            use 0 1 = IOOBE
            pass 1 = 30
            use 0 0 = 0
            use 0 1 = -1
            """);
    }

    private static void flat(Script script) {
        script.due("2 flat", """
            flat 0 = IAE
            flat 10 = IAE
            flat -1 = IAE
            flat LEAST = IAE
            flat MOST = IAE
            flat 1 = 0
            flat 9 = 1
            flat 5 = 2
            flat 5 = 3
            flat 5 = 4
            flat 0 = IAE
            flat 5 = 5
            flat 5 = 6
            flat 8 = 7
            flat 8 = ISE
            flat 0 = IAE
            flat 10 = IAE
            points 7 = 0
            points 8 = IOOBE
            """);
        script.due("2 its rooms count", """
            flat 1 = 0
            flat 9 = 1
            lease 0 0 = 0
            lease 1 0 = 1
            pass 30 = 30
            heat 1000 = 1000
            pass 30 = 60
            bill 0 1 3 = 100
            bill 1 1 3 = 900
            """);
    }

    private static void lease(Script script) {
        script.due("3 lease", """
            lease 0 -1 = IOOBE
            flat 2 = 0
            flat 2 = 1
            lease -1 0 = IOOBE
            lease 2 0 = IOOBE
            lease 2 -1 = IOOBE
            lease LEAST 0 = IOOBE
            lease MOST 0 = IOOBE
            lease 0 -1 = IAE
            lease 0 500001 = IAE
            lease 0 LEAST = IAE
            lease 0 MOST = IAE
            lease 0 500000 = 0
            lease 1 0 = 1
            lease 0 1 = ISE
            lease 0 -1 = IAE
            lease 0 500001 = IAE
            lease 2 1 = IOOBE
            pass 30 = 30
            bill 0 0 0 = -1
            bill 0 1 0 = -1
            lease 1 7 = ISE
            pass 30 = 60
            bill 0 1 0 = 500000
            bill 1 1 0 = 0
            owes 2 = IOOBE
            """);
        script.due("3 a flat is let again from the next month on", """
            flat 1 = 0
            lease 0 1000 = 0
            pass 45 = 45
            end 0 = 1
            lease 0 2000 = 1
            lease 0 3000 = ISE
            pass 15 = 60
            bill 0 1 0 = 1000
            bill 1 1 0 = -1
            lease 0 3000 = ISE
            pass 30 = 90
            bill 0 2 0 = -1
            bill 1 2 0 = 2000
            """);
        script.due("3 no more than twelve", """
            flat 1 = 0
            """, Script.repeat(11, """
            lease 0 # = #
            lease 0 5 = ISE
            end # = 0
            """), """
            lease 0 5 = 11
            end 11 = 0
            lease 0 5 = ISE
            lease 0 -1 = IAE
            lease 1 5 = IOOBE
            owes 11 = 0
            owes 12 = IOOBE
            """);
    }

    private static void end(Script script) {
        script.due("4 end", """
            end 0 = IOOBE
            flat 1 = 0
            lease 0 1000 = 0
            end -1 = IOOBE
            end 1 = IOOBE
            end LEAST = IOOBE
            end MOST = IOOBE
            pass 61 = IAE
            pass 30 = 30
            pass 40 = 70
            end 0 = 2
            end 0 = ISE
            end 1 = IOOBE
            pass 20 = 90
            bill 0 1 0 = 1000
            bill 0 2 0 = 1000
            desk 0 = 0
            owes 0 = 400
            end 0 = ISE
            pass 30 = 120
            bill 0 3 0 = -1
            owes 0 = 400
            """);
        script.due("4 one that did not run yet never does", """
            flat 1 = 0
            pass 60 = 60
            lease 0 1000 = 0
            end 0 = 2
            pass 60 = 120
            bill 0 2 0 = -1
            bill 0 3 0 = -1
            owes 0 = 0
            desk 0 = 0
            owner = 0
            lease 0 500 = 1
            pass 60 = 180
            bill 1 4 0 = -1
            bill 1 5 0 = 500
            """);
        script.due("4 the desk keeps what it owes for an ended lease", """
            flat 1 = 0
            lease 0 1000 = 0
            income 0 0 10000 = 0
            pass 30 = 30
            desk 0 = 0
            end 0 = 1
            pass 30 = 60
            income 0 1 0 = -800
            desk 0 = 800
            owes 0 = 200
            pass 60 = 120
            desk 0 = 800
            owner = -1000
            """);
    }

    private static void index(Script script) {
        script.due("5 index", """
            index 49 = IAE
            index 201 = IAE
            index LEAST = IAE
            index MOST = IAE
            flat 1 = 0
            lease 0 333 = 0
            index 150 = 100
            index 50 = 100
            index 49 = IAE
            index 201 = IAE
            pass 30 = 30
            index 200 = 50
            pass 30 = 60
            bill 0 1 0 = 166
            pass 60 = 120
            bill 0 2 0 = 666
            bill 0 3 0 = 666
            index 101 = 200
            pass 30 = 150
            bill 0 4 0 = 666
            index 199 = 101
            pass 30 = 180
            bill 0 5 0 = 336
            bill 0 1 0 = 166
            index 100 = 199
            """);
        script.due("5 the benefit paid ahead is for the rent of the month", """
            flat 1 = 0
            lease 0 1000 = 0
            index 200 = 100
            pass 30 = 30
            desk 0 = -1600
            index 50 = 200
            pass 30 = 60
            desk 0 = -400
            owes 0 = 400
            """);
    }
}
