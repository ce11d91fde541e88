import java.util.ArrayList;

/** A housing office with its meters, its repairs and its benefits desk. */
public final class RentStream {
    public static final int NONE = -1;
    public static final int URGENT = 0, SOON = 1, LATER = 2;
    public static final int RUNS = 1, BROKEN = 2, DONE = 3;

    private static final int MOST_FLATS = 8;
    private static final int MOST_ROOMS = 9;
    private static final int MOST_LEASES = 12;
    private static final int MOST_RENT = 500000;
    private static final int LEAST_INDEX = 50;
    private static final int MOST_INDEX = 200;
    private static final int INDEX_AT_FIRST = 100;
    private static final int MOST_SHOWN = 1000000;
    private static final int MOST_CENTS = 1000000;
    private static final int MOST_HEAT = 10000000;
    private static final int MOST_REPAIRS = 60;
    private static final int MOST_PARTS = 12;
    private static final int MOST_DAYS = 60;
    private static final int LAST_DAY = 3600;
    private static final int MONTH_DAYS = 30;
    /** The last day is the first one of a month, which counts too. */
    private static final int MONTHS = 121;
    private static final int POINTS_OF_ALL = 3000;

    private static final int RENT = 0, LOWERED = 1, BENEFIT = 2, HEAT = 3;

    private final ArrayList<Flat> flats = new ArrayList<>();
    private final ArrayList<Lease> leases = new ArrayList<>();
    private final ArrayList<Repair> repairs = new ArrayList<>();
    private final Months indexes = new Months(INDEX_AT_FIRST);
    private final Months heatCosts = new Months(0);
    /** Kept, so that asking for many signs or for many accounts anew makes no objects. */
    private final StringBuilder lineText = new StringBuilder();
    private final Bill settledAnew = new Bill();
    private int nextIndex = INDEX_AT_FIRST;
    private int day = 0;
    private long ownerAccount = 0;

    public RentStream() {
    }

    // ---- flats, leases

    public int flat(int rooms) throws IllegalArgumentException, IllegalStateException {
        if (rooms < 1 || rooms > MOST_ROOMS) {
            throw new IllegalArgumentException("rooms out of range");
        }
        if (flats.size() >= MOST_FLATS) {
            throw new IllegalStateException("no more flats");
        }
        flats.add(new Flat(rooms));
        return flats.size() - 1;
    }

    public int lease(int flat, int rent)
            throws IndexOutOfBoundsException, IllegalArgumentException, IllegalStateException {
        Flat home = flatAt(flat);
        if (rent < 0 || rent > MOST_RENT) {
            throw new IllegalArgumentException("rent out of range");
        }
        if (leases.size() >= MOST_LEASES || isLetOn(home)) {
            throw new IllegalStateException("no more leases, or the flat is let");
        }
        leases.add(new Lease(home, rent, monthNow() + 1));
        return leases.size() - 1;
    }

    public int end(int lease) throws IndexOutOfBoundsException, IllegalStateException {
        Lease ended = leaseAt(lease);
        if (ended.last != NONE) {
            throw new IllegalStateException("ended before");
        }
        ended.last = monthNow();
        return ended.last;
    }

    public int index(int points) throws IllegalArgumentException {
        if (points < LEAST_INDEX || points > MOST_INDEX) {
            throw new IllegalArgumentException("points out of range");
        }
        nextIndex = points;
        return indexes.in(monthNow());
    }

    // ---- meters, heat, repairs

    public int read(int flat, int shown)
            throws IndexOutOfBoundsException, IllegalArgumentException {
        Flat home = flatAt(flat);
        if (shown < home.shown || shown > MOST_SHOWN) {
            throw new IllegalArgumentException("shown out of range");
        }
        return home.readMeter(shown, monthNow());
    }

    public int heat(int cents) throws IllegalArgumentException, IllegalStateException {
        if (cents < 1 || cents > MOST_CENTS) {
            throw new IllegalArgumentException("cents out of range");
        }
        int month = monthNow();
        int cost = heatCosts.in(month) + cents;
        if (cost > MOST_HEAT) {
            throw new IllegalStateException("too much heat");
        }
        heatCosts.put(month, cost);
        return cost;
    }

    public int report(int flat, int grade)
            throws IndexOutOfBoundsException, IllegalArgumentException, IllegalStateException {
        Flat home = flatAt(flat);
        if (grade < URGENT || grade > LATER) {
            throw new IllegalArgumentException("grade out of range");
        }
        if (repairs.size() >= MOST_REPAIRS) {
            throw new IllegalStateException("no more repairs");
        }
        repairs.add(new Repair(home, grade, day));
        return repairs.size() - 1;
    }

    public int mend(int repair) throws IndexOutOfBoundsException, IllegalStateException {
        if (repair < 0 || repair >= repairs.size()) {
            throw new IndexOutOfBoundsException("no such repair");
        }
        Repair mended = repairs.get(repair);
        if (mended.isMended) {
            throw new IllegalStateException("mended before");
        }
        mended.isMended = true;
        return mended.daysTaken;
    }

    // ---- incomes, payments, plans

    public long income(int lease, int month, int cents)
            throws IndexOutOfBoundsException, IllegalArgumentException {
        Lease earner = leaseAt(lease);
        needMonth(month);
        if (cents < 0 || cents > MOST_CENTS) {
            throw new IllegalArgumentException("cents out of range");
        }
        earner.told.put(month, cents);
        long less = earner.benefitsAnew(month, monthNow());
        postToTenant(earner, less);
        postToDesk(earner, -less);
        return less;
    }

    public long pay(int lease, int cents)
            throws IndexOutOfBoundsException, IllegalArgumentException {
        Lease payer = leaseAt(lease);
        if (cents < 1 || cents > MOST_CENTS) {
            throw new IllegalArgumentException("cents out of range");
        }
        payer.paid += cents;
        postToTenant(payer, -cents);
        return payer.tenantAccount;
    }

    public long plan(int lease, int parts)
            throws IndexOutOfBoundsException, IllegalArgumentException, IllegalStateException {
        Lease debtor = leaseAt(lease);
        if (parts < 1 || parts > MOST_PARTS) {
            throw new IllegalArgumentException("parts out of range");
        }
        if (debtor.plan.state == RUNS || debtor.tenantAccount <= 0) {
            throw new IllegalStateException("a plan runs, or nothing is owed");
        }
        long part = (debtor.tenantAccount + parts - 1) / parts;
        debtor.plan.begin(debtor.tenantAccount, part);
        return part;
    }

    public int pass(int days) throws IllegalArgumentException, IllegalStateException {
        if (days < 1 || days > MOST_DAYS) {
            throw new IllegalArgumentException("days out of range");
        }
        if (day + days > LAST_DAY) {
            throw new IllegalStateException("beyond the last day");
        }
        for (int passed = 0; passed < days; passed++) {
            endDay();
        }
        return day;
    }

    // ---- what there is

    public long owes(int lease) throws IndexOutOfBoundsException {
        return leaseAt(lease).tenantAccount;
    }

    public long owesAnew(int lease) throws IndexOutOfBoundsException {
        Lease debtor = leaseAt(lease);
        long owed = -debtor.paid;
        int now = monthNow();
        for (int month = 0; month < now; month++) {
            if (debtor.runsIn(month)) {
                shareHeat(month);
                settle(debtor, month, settledAnew);
                owed += settledAnew.ofTenant();
            }
        }
        return owed;
    }

    public long desk(int lease) throws IndexOutOfBoundsException {
        return leaseAt(lease).deskAccount;
    }

    public long owner() {
        return ownerAccount;
    }

    public long bill(int lease, int month, int what)
            throws IndexOutOfBoundsException, IllegalArgumentException {
        Lease billed = leaseAt(lease);
        needMonth(month);
        if (what < RENT || what > HEAT) {
            throw new IllegalArgumentException("what out of range");
        }
        Bill made = billed.billOf(month);
        return made == null ? NONE : made.amount(what);
    }

    public char line(int lease, int month, int place) throws IndexOutOfBoundsException {
        Lease billed = leaseAt(lease);
        needMonth(month);
        if (place < 0) {
            throw new IndexOutOfBoundsException("no such place");
        }
        Bill made = billed.billOf(month);
        if (made == null) {
            return ' ';
        }
        lineText.setLength(0);
        writeLine(lineText, lease, month, made);
        return place < lineText.length() ? lineText.charAt(place) : ' ';
    }

    public int use(int flat, int month) throws IndexOutOfBoundsException {
        Flat home = flatAt(flat);
        needMonth(month);
        return home.uses.in(month);
    }

    public int points(int flat) throws IndexOutOfBoundsException {
        return flatAt(flat).pointsOff.in(monthNow());
    }

    public int planOf(int lease) throws IndexOutOfBoundsException {
        return leaseAt(lease).plan.state;
    }

    // ---- what the calls are made of

    private Flat flatAt(int number) {
        if (number < 0 || number >= flats.size()) {
            throw new IndexOutOfBoundsException("no such flat");
        }
        return flats.get(number);
    }

    private Lease leaseAt(int number) {
        if (number < 0 || number >= leases.size()) {
            throw new IndexOutOfBoundsException("no such lease");
        }
        return leases.get(number);
    }

    private void needMonth(int month) {
        if (month < 0 || month > monthNow()) {
            throw new IndexOutOfBoundsException("no such month");
        }
    }

    private int monthNow() {
        return day / MONTH_DAYS;
    }

    /** A lease that was ended is over by the next month, so only the others stand in the way. */
    private boolean isLetOn(Flat home) {
        for (int i = 0; i < leases.size(); i++) {
            Lease other = leases.get(i);
            if (other.home == home && other.last == NONE) {
                return true;
            }
        }
        return false;
    }

    private void postToTenant(Lease lease, long cents) {
        lease.tenantAccount += cents;
        ownerAccount -= cents;
    }

    private void postToDesk(Lease lease, long cents) {
        lease.deskAccount += cents;
        ownerAccount -= cents;
    }

    private void endDay() {
        int month = monthNow();
        for (int i = 0; i < repairs.size(); i++) {
            repairs.get(i).takePoints(day, month);
        }
        day++;
        if (monthNow() > month) {
            endMonth(month);
            beginMonth(month + 1);
        }
    }

    private void endMonth(int month) {
        for (int i = 0; i < flats.size(); i++) {
            flats.get(i).findUse(month);
        }
        shareHeat(month);
        for (int i = 0; i < leases.size(); i++) {
            Lease lease = leases.get(i);
            // A plan looks at what is owed without the bill of this month.
            lease.plan.endMonth(lease.tenantAccount);
            if (lease.runsIn(month)) {
                makeBill(lease, month);
            }
        }
    }

    private void makeBill(Lease lease, int month) {
        Bill made = new Bill();
        settle(lease, month, made);
        lease.putBill(month, made);
        postToTenant(lease, made.ofTenant());
        postToDesk(lease, made.benefit);
    }

    private void beginMonth(int month) {
        indexes.put(month, nextIndex);
        for (int i = 0; i < leases.size(); i++) {
            Lease lease = leases.get(i);
            if (lease.runsIn(month)) {
                payAhead(lease, month);
            }
        }
    }

    private void payAhead(Lease lease, int month) {
        int rent = lease.rentAt(indexes.in(month));
        long due = benefitFor(rent, lease.incomeIn(month)) + lease.deskAccount;
        if (due > 0) {
            postToDesk(lease, -due);
        }
    }

    /** Leaves in the heat share of each lease what it bears of the heat of the month. */
    private void shareHeat(int month) {
        int cost = heatCosts.in(month);
        int byRooms = usesOfAll(month) == 0 ? cost : cost * 3 / 10;
        for (int i = 0; i < leases.size(); i++) {
            Lease lease = leases.get(i);
            lease.heatShare.cents = 0;
            lease.heatShare.weight = lease.runsIn(month) ? lease.home.rooms : 0;
        }
        shareByWeights(byRooms);
        for (int i = 0; i < leases.size(); i++) {
            Lease lease = leases.get(i);
            lease.heatShare.weight = lease.useIn(month);
        }
        shareByWeights(cost - byRooms);
    }

    private long usesOfAll(int month) {
        long uses = 0;
        for (int i = 0; i < leases.size(); i++) {
            uses += leases.get(i).useIn(month);
        }
        return uses;
    }

    private void shareByWeights(int sum) {
        long all = 0;
        for (int i = 0; i < leases.size(); i++) {
            all += leases.get(i).heatShare.weight;
        }
        if (all <= 0) {
            return;
        }
        int left = sum;
        for (int i = 0; i < leases.size(); i++) {
            left -= leases.get(i).heatShare.takeWhole(sum, all);
        }
        for (int given = 0; given < left; given++) {
            giveOneMore();
        }
    }

    /** To the greatest remainder; of the same, the lower number is met first and stays. */
    private void giveOneMore() {
        if (leases.isEmpty()) {
            return;
        }
        HeatShare greatest = leases.get(0).heatShare;
        for (int i = 1; i < leases.size(); i++) {
            HeatShare other = leases.get(i).heatShare;
            if (other.isAheadOf(greatest)) {
                greatest = other;
            }
        }
        greatest.takeOneMore();
    }

    /** The heat of the month must have been shared. */
    private void settle(Lease lease, int month, Bill into) {
        into.rent = lease.rentAt(indexes.in(month));
        into.lowered = loweredBy(into.rent, lease.home.pointsOff.in(month));
        into.benefit = benefitFor(into.rent - into.lowered, lease.incomeIn(month));
        into.heat = lease.heatShare.cents;
    }

    private static int loweredBy(int rent, int points) {
        long lowered = (long) rent * points / POINTS_OF_ALL;
        return (int) Math.min(lowered, rent);
    }

    private static int benefitFor(int rent, int income) {
        int wanting = rent - income * 3 / 10;
        int most = rent * 8 / 10;
        return Math.max(0, Math.min(wanting, most));
    }

    private static void writeLine(StringBuilder text, int lease, int month, Bill bill) {
        text.append('L');
        text.append(lease);
        text.append(" M");
        text.append(month);
        writeAmount(text, 'R', bill.rent);
        writeAmount(text, 'X', bill.lowered);
        writeAmount(text, 'B', bill.benefit);
        writeAmount(text, 'H', bill.heat);
        writeAmount(text, 'T', bill.ofTenant());
    }

    private static void writeAmount(StringBuilder text, char letter, int cents) {
        text.append(' ');
        text.append(letter);
        writeWhole(text, cents / 100);
        text.append(',');
        writeDigits(text, cents % 100, 10);
    }

    private static void writeWhole(StringBuilder text, int whole) {
        boolean begun = false;
        // An int of cents has no more than eight digits ahead of the comma.
        for (int group = 1000000; group > 0; group /= 1000) {
            int three = whole / group % 1000;
            if (begun) {
                text.append('.');
                writeDigits(text, three, 100);
            } else if (three > 0 || group == 1) {
                text.append(three);
                begun = true;
            }
        }
    }

    /** Writes leading zeros too, from the digit that counts `highest` on. */
    private static void writeDigits(StringBuilder text, int number, int highest) {
        for (int unit = highest; unit > 0; unit /= 10) {
            text.append((char) ('0' + number / unit % 10));
        }
    }

    /** A number for each month; other months read as NONE and keep nothing. */
    private static final class Months {
        private final int[] numbers = new int[MONTHS];

        Months(int atFirst) {
            for (int month = 0; month < numbers.length; month++) {
                numbers[month] = atFirst;
            }
        }

        int in(int month) {
            return month >= 0 && month < numbers.length ? numbers[month] : NONE;
        }

        void put(int month, int number) {
            if (month >= 0 && month < numbers.length) {
                numbers[month] = number;
            }
        }
    }

    private static final class Flat {
        final int rooms;
        final Months uses = new Months(NONE);
        final Months pointsOff = new Months(0);
        int shown = 0;
        private int counted = 0;
        private int lastReadIn = NONE;

        Flat(int rooms) {
            this.rooms = rooms;
        }

        int readMeter(int showing, int month) {
            int more = showing - shown;
            shown = showing;
            lastReadIn = month;
            return more;
        }

        void findUse(int month) {
            int found = lastReadIn == month ? Math.max(0, shown - counted) : guessedUse(month);
            uses.put(month, found);
            counted += found;
        }

        private int guessedUse(int month) {
            int sum = 0;
            int found = 0;
            for (int back = 1; back <= 3; back++) {
                int earlier = uses.in(month - back);
                if (earlier != NONE) {
                    sum += earlier;
                    found++;
                }
            }
            return found == 0 ? 0 : sum / found;
        }
    }

    private static final class Repair {
        boolean isMended = false;
        int daysTaken = 0;
        private final Flat home;
        private final int grade;
        private final int reportedOn;

        Repair(Flat home, int grade, int reportedOn) {
            this.home = home;
            this.grade = grade;
            this.reportedOn = reportedOn;
        }

        void takePoints(int today, int month) {
            if (!isMended && today - reportedOn > clock()) {
                home.pointsOff.put(month, home.pointsOff.in(month) + pointsADay());
                daysTaken++;
            }
        }

        private int clock() {
            return grade == URGENT ? 2 : grade == SOON ? 7 : 30;
        }

        private int pointsADay() {
            return grade == URGENT ? 30 : grade == SOON ? 10 : 5;
        }
    }

    private static final class Bill {
        int rent = 0;
        int lowered = 0;
        int benefit = 0;
        int heat = 0;

        int ofTenant() {
            return rent - lowered - benefit + heat;
        }

        int amount(int what) {
            switch (what) {
                case RENT:
                    return rent;
                case LOWERED:
                    return lowered;
                case BENEFIT:
                    return benefit;
                default:
                    return heat;
            }
        }
    }

    private static final class Plan {
        /** 0 as long as there was no plan. */
        int state = 0;
        private long owedAtFirst = 0;
        private long part = 0;
        private int monthsEnded = 0;

        void begin(long owed, long partOfIt) {
            state = RUNS;
            owedAtFirst = owed;
            part = partOfIt;
            monthsEnded = 0;
        }

        void endMonth(long owed) {
            if (state != RUNS) {
                return;
            }
            monthsEnded++;
            long bound = Math.max(0L, owedAtFirst - part * monthsEnded);
            if (owed > bound) {
                state = BROKEN;
            } else if (bound == 0) {
                state = DONE;
            }
        }
    }

    /** What a lease bears of the heat of the month that is shared just now. */
    private static final class HeatShare {
        int cents = 0;
        int weight = 0;
        private long remainder = 0;

        /** Answers how much it takes; the weights of all are above 0. */
        int takeWhole(int sum, long allWeights) {
            if (allWeights <= 0) {
                return 0;
            }
            long product = (long) sum * weight;
            int whole = (int) (product / allWeights);
            remainder = product % allWeights;
            cents += whole;
            return whole;
        }

        boolean isAheadOf(HeatShare other) {
            return remainder > other.remainder;
        }

        void takeOneMore() {
            cents++;
            remainder = 0;
        }
    }

    private static final class Lease {
        final Flat home;
        /** The last month, perhaps ahead of the first; NONE as long as it was not ended. */
        int last = NONE;
        final Months told = new Months(NONE);
        final Plan plan = new Plan();
        final HeatShare heatShare = new HeatShare();
        long tenantAccount = 0;
        long deskAccount = 0;
        long paid = 0;
        private final int rent;
        private final int first;
        private final Bill[] bills = new Bill[MONTHS];

        Lease(Flat home, int rent, int first) {
            this.home = home;
            this.rent = rent;
            this.first = first;
        }

        boolean runsIn(int month) {
            return first <= month && (last == NONE || month <= last);
        }

        /** The use of its flat, as far as the lease runs. */
        int useIn(int month) {
            return runsIn(month) ? home.uses.in(month) : 0;
        }

        int rentAt(int indexPoints) {
            return rent * indexPoints / 100;
        }

        int incomeIn(int month) {
            for (int back = month; back >= 0; back--) {
                if (told.in(back) != NONE) {
                    return told.in(back);
                }
            }
            return 0;
        }

        /** Null if there is none. */
        Bill billOf(int month) {
            return month >= 0 && month < bills.length ? bills[month] : null;
        }

        void putBill(int month, Bill made) {
            if (month >= 0 && month < bills.length) {
                bills[month] = made;
            }
        }

        /** Answers how much less the benefits from a month on are than they were. */
        long benefitsAnew(int from, int until) {
            long less = 0;
            for (int month = from; month < until; month++) {
                Bill made = billOf(month);
                if (made != null) {
                    int anew = benefitFor(made.rent - made.lowered, incomeIn(month));
                    less += made.benefit - anew;
                    made.benefit = anew;
                }
            }
            return less;
        }
    }
}
