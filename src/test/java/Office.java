/** What the program and the reference have in common, so that one test can call both. */
interface Office {
    int flat(int rooms);

    int lease(int flat, int rent);

    int end(int lease);

    int index(int points);

    int read(int flat, int shown);

    int heat(int cents);

    int report(int flat, int grade);

    int mend(int repair);

    long income(int lease, int month, int cents);

    long pay(int lease, int cents);

    long plan(int lease, int parts);

    int pass(int days);

    long owes(int lease);

    long owesAnew(int lease);

    long desk(int lease);

    long owner();

    long bill(int lease, int month, int what);

    char line(int lease, int month, int place);

    int use(int flat, int month);

    int points(int flat);

    int planOf(int lease);
}
