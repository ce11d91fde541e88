/** The program under test as an Office. */
final class Program implements Office {
    private final RentStream stream = new RentStream();
    private int calls = 0;

    /** How many calls were made; the document says nothing of an object behind its 512th. */
    int calls() {
        return calls;
    }

    private RentStream called() {
        calls++;
        return stream;
    }

    @Override
    public int flat(int rooms) {
        return called().flat(rooms);
    }

    @Override
    public int lease(int flat, int rent) {
        return called().lease(flat, rent);
    }

    @Override
    public int end(int lease) {
        return called().end(lease);
    }

    @Override
    public int index(int points) {
        return called().index(points);
    }

    @Override
    public int read(int flat, int shown) {
        return called().read(flat, shown);
    }

    @Override
    public int heat(int cents) {
        return called().heat(cents);
    }

    @Override
    public int report(int flat, int grade) {
        return called().report(flat, grade);
    }

    @Override
    public int mend(int repair) {
        return called().mend(repair);
    }

    @Override
    public long income(int lease, int month, int cents) {
        return called().income(lease, month, cents);
    }

    @Override
    public long pay(int lease, int cents) {
        return called().pay(lease, cents);
    }

    @Override
    public long plan(int lease, int parts) {
        return called().plan(lease, parts);
    }

    @Override
    public int pass(int days) {
        return called().pass(days);
    }

    @Override
    public long owes(int lease) {
        return called().owes(lease);
    }

    @Override
    public long owesAnew(int lease) {
        return called().owesAnew(lease);
    }

    @Override
    public long desk(int lease) {
        return called().desk(lease);
    }

    @Override
    public long owner() {
        return called().owner();
    }

    @Override
    public long bill(int lease, int month, int what) {
        return called().bill(lease, month, what);
    }

    @Override
    public char line(int lease, int month, int place) {
        return called().line(lease, month, place);
    }

    @Override
    public int use(int flat, int month) {
        return called().use(flat, month);
    }

    @Override
    public int points(int flat) {
        return called().points(flat);
    }

    @Override
    public int planOf(int lease) {
        return called().planOf(lease);
    }
}
