/** The program under test as an Office. */
final class Program implements Office {
    private final RentStream stream = new RentStream();

    @Override
    public int flat(int rooms) {
        return stream.flat(rooms);
    }

    @Override
    public int lease(int flat, int rent) {
        return stream.lease(flat, rent);
    }

    @Override
    public int end(int lease) {
        return stream.end(lease);
    }

    @Override
    public int index(int points) {
        return stream.index(points);
    }

    @Override
    public int read(int flat, int shown) {
        return stream.read(flat, shown);
    }

    @Override
    public int heat(int cents) {
        return stream.heat(cents);
    }

    @Override
    public int report(int flat, int grade) {
        return stream.report(flat, grade);
    }

    @Override
    public int mend(int repair) {
        return stream.mend(repair);
    }

    @Override
    public long income(int lease, int month, int cents) {
        return stream.income(lease, month, cents);
    }

    @Override
    public long pay(int lease, int cents) {
        return stream.pay(lease, cents);
    }

    @Override
    public long plan(int lease, int parts) {
        return stream.plan(lease, parts);
    }

    @Override
    public int pass(int days) {
        return stream.pass(days);
    }

    @Override
    public long owes(int lease) {
        return stream.owes(lease);
    }

    @Override
    public long owesAnew(int lease) {
        return stream.owesAnew(lease);
    }

    @Override
    public long desk(int lease) {
        return stream.desk(lease);
    }

    @Override
    public long owner() {
        return stream.owner();
    }

    @Override
    public long bill(int lease, int month, int what) {
        return stream.bill(lease, month, what);
    }

    @Override
    public char line(int lease, int month, int place) {
        return stream.line(lease, month, place);
    }

    @Override
    public int use(int flat, int month) {
        return stream.use(flat, month);
    }

    @Override
    public int points(int flat) {
        return stream.points(flat);
    }

    @Override
    public int planOf(int lease) {
        return stream.planOf(lease);
    }
}
