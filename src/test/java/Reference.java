import java.util.ArrayList;
import java.util.Comparator;
import java.util.HashMap;
import java.util.List;
import java.util.Map;
import java.util.TreeMap;

/**
 * The document once more, told the other way round: it keeps only what was told and when, and finds
 * each answer from that alone, so that it shares no running account with the program.
 */
final class Reference implements Office {
    private record Flat(int rooms, int addedIn) {}

    private record Let(int flat, int rent, int first) {}

    private record Told(long order, int month, int cents) {}

    private record Sum(long order, long cents) {}

    private record Shown(int month, int shown) {}

    private record Broken(int flat, int grade, int day) {}

    private record Parted(long order, int month, long owed, int parts) {}

    private static final int[] CLOCKS = {2, 7, 30};
    private static final int[] POINTS = {30, 10, 5};

    private final List<Flat> flats = new ArrayList<>();
    private final List<Let> lets = new ArrayList<>();
    private final Map<Integer, Integer> lastMonths = new HashMap<>();
    private final TreeMap<Integer, Integer> indexes = new TreeMap<>(Map.of(0, 100));
    private final Map<Integer, List<Shown>> reads = new HashMap<>();
    private final Map<Integer, Integer> costs = new HashMap<>();
    private final List<Broken> repairs = new ArrayList<>();
    private final Map<Integer, Integer> mendedOn = new HashMap<>();
    private final Map<Integer, List<Told>> incomes = new HashMap<>();
    private final Map<Integer, List<Sum>> payments = new HashMap<>();
    private final Map<Integer, Parted> plans = new HashMap<>();
    private final Map<Integer, Long> monthEnds = new HashMap<>();
    private final Map<String, Long> ahead = new HashMap<>();
    private final Map<Integer, Map<Integer, Long>> heats = new HashMap<>();
    private long order = 0;
    private int day = 0;

    // ---- the calls

    @Override
    public int flat(int rooms) {
        need(rooms >= 1 && rooms <= 9);
        allow(flats.size() < 8);
        flats.add(new Flat(rooms, now()));
        return flats.size() - 1;
    }

    @Override
    public int lease(int flat, int rent) {
        find(flat, flats.size());
        need(rent >= 0 && rent <= 500000);
        allow(lets.size() < 12);
        for (int other = 0; other < lets.size(); other++) {
            allow(lets.get(other).flat() != flat || !runs(other, now() + 1));
        }
        lets.add(new Let(flat, rent, now() + 1));
        return lets.size() - 1;
    }

    @Override
    public int end(int lease) {
        find(lease, lets.size());
        allow(!lastMonths.containsKey(lease));
        lastMonths.put(lease, now());
        return now();
    }

    @Override
    public int index(int points) {
        need(points >= 50 && points <= 200);
        indexes.put(now() + 1, points);
        return indexOf(now());
    }

    @Override
    public int read(int flat, int shown) {
        find(flat, flats.size());
        List<Shown> earlier = reads.computeIfAbsent(flat, key -> new ArrayList<>());
        int last = earlier.isEmpty() ? 0 : earlier.get(earlier.size() - 1).shown();
        need(shown >= 0 && shown <= 1000000 && shown >= last);
        earlier.add(new Shown(now(), shown));
        return shown - last;
    }

    @Override
    public int heat(int cents) {
        need(cents >= 1 && cents <= 1000000);
        int cost = costs.getOrDefault(now(), 0) + cents;
        allow(cost <= 10000000);
        costs.put(now(), cost);
        return cost;
    }

    @Override
    public int report(int flat, int grade) {
        find(flat, flats.size());
        need(grade >= 0 && grade <= 2);
        allow(repairs.size() < 60);
        repairs.add(new Broken(flat, grade, day));
        return repairs.size() - 1;
    }

    @Override
    public int mend(int repair) {
        find(repair, repairs.size());
        allow(!mendedOn.containsKey(repair));
        mendedOn.put(repair, day);
        return daysOff(repair, 0, day);
    }

    @Override
    public long income(int lease, int month, int cents) {
        find(lease, lets.size());
        find(month, now() + 1);
        need(cents >= 0 && cents <= 1000000);
        long before = owes(lease);
        incomes.computeIfAbsent(lease, key -> new ArrayList<>())
                .add(new Told(order++, month, cents));
        return owes(lease) - before;
    }

    @Override
    public long pay(int lease, int cents) {
        find(lease, lets.size());
        need(cents >= 1 && cents <= 1000000);
        payments.computeIfAbsent(lease, key -> new ArrayList<>()).add(new Sum(order++, cents));
        return owes(lease);
    }

    @Override
    public long plan(int lease, int parts) {
        find(lease, lets.size());
        need(parts >= 1 && parts <= 12);
        allow(planOf(lease) != 1);
        long owed = owes(lease);
        allow(owed > 0);
        plans.put(lease, new Parted(order++, now(), owed, parts));
        return partOf(owed, parts);
    }

    @Override
    public int pass(int days) {
        need(days >= 1 && days <= 60);
        allow(day + days <= 3600);
        int month = now();
        day += days;
        for (; month < now(); month++) {
            monthEnds.put(month, order++);
        }
        return day;
    }

    @Override
    public long owes(int lease) {
        find(lease, lets.size());
        return owedBy(lease, now(), order);
    }

    @Override
    public long owesAnew(int lease) {
        return owes(lease);
    }

    @Override
    public long desk(int lease) {
        find(lease, lets.size());
        return benefits(lease, now(), order) - paidAhead(lease, now() + 1);
    }

    @Override
    public long owner() {
        long sum = 0;
        for (int lease = 0; lease < lets.size(); lease++) {
            sum += owes(lease) + desk(lease);
        }
        return -sum;
    }

    @Override
    public long bill(int lease, int month, int what) {
        find(lease, lets.size());
        find(month, now() + 1);
        need(what >= 0 && what <= 3);
        if (month == now() || !runs(lease, month)) {
            return -1;
        }
        return switch (what) {
            case 0 -> rentOf(lease, month);
            case 1 -> rentOf(lease, month) - loweredRent(lease, month);
            case 2 -> benefitIn(lease, month, order);
            default -> heatsIn(month).get(lease);
        };
    }

    @Override
    public char line(int lease, int month, int place) {
        find(lease, lets.size());
        find(month, now() + 1);
        find(Math.min(place, 0), 1);
        if (bill(lease, month, 0) < 0) {
            return ' ';
        }
        long rent = bill(lease, month, 0);
        long lowered = bill(lease, month, 1);
        long benefit = bill(lease, month, 2);
        long heat = bill(lease, month, 3);
        String text = "L" + lease + " M" + month + " R" + written(rent) + " X" + written(lowered)
                + " B" + written(benefit) + " H" + written(heat)
                + " T" + written(rent - lowered - benefit + heat);
        return place < text.length() ? text.charAt(place) : ' ';
    }

    @Override
    public int use(int flat, int month) {
        find(flat, flats.size());
        find(month, now() + 1);
        List<Long> uses = usesOf(flat);
        int at = month - flats.get(flat).addedIn();
        return at < 0 || at >= uses.size() ? -1 : (int) (long) uses.get(at);
    }

    @Override
    public int points(int flat) {
        find(flat, flats.size());
        return (int) pointsIn(flat, now());
    }

    @Override
    public int planOf(int lease) {
        find(lease, lets.size());
        Parted plan = plans.get(lease);
        if (plan == null) {
            return 0;
        }
        for (int month = plan.month(); month < now(); month++) {
            long owed = owedBy(lease, month, monthEnds.get(month));
            long parted = partOf(plan.owed(), plan.parts()) * (month - plan.month() + 1);
            long bound = Math.max(0, plan.owed() - parted);
            if (owed > bound) {
                return 2;
            }
            if (bound == 0) {
                return 3;
            }
        }
        return 1;
    }

    // ---- what the answers are found from

    private static void find(int number, int count) {
        if (number < 0 || number >= count) {
            throw new IndexOutOfBoundsException();
        }
    }

    private static void need(boolean inRange) {
        if (!inRange) {
            throw new IllegalArgumentException();
        }
    }

    private static void allow(boolean allowed) {
        if (!allowed) {
            throw new IllegalStateException();
        }
    }

    private int now() {
        return day / 30;
    }

    private boolean runs(int lease, int month) {
        return lets.get(lease).first() <= month
                && month <= lastMonths.getOrDefault(lease, Integer.MAX_VALUE);
    }

    private int indexOf(int month) {
        return indexes.floorEntry(month).getValue();
    }

    private long rentOf(int lease, int month) {
        return (long) lets.get(lease).rent() * indexOf(month) / 100;
    }

    private long loweredRent(int lease, int month) {
        long rent = rentOf(lease, month);
        return rent - Math.min(rent, rent * pointsIn(lets.get(lease).flat(), month) / 3000);
    }

    /** On how many of these days, the last left out, a repair took points off. */
    private int daysOff(int repair, int fromDay, int untilDay) {
        Broken broken = repairs.get(repair);
        int from = Math.max(fromDay, broken.day() + CLOCKS[broken.grade()] + 1);
        int until = Math.min(untilDay, Math.min(day, mendedOn.getOrDefault(repair, day)));
        return Math.max(0, until - from);
    }

    private long pointsIn(int flat, int month) {
        long sum = 0;
        for (int repair = 0; repair < repairs.size(); repair++) {
            if (repairs.get(repair).flat() == flat) {
                sum += (long) POINTS[repairs.get(repair).grade()]
                        * daysOff(repair, month * 30, month * 30 + 30);
            }
        }
        return sum;
    }

    /** The uses of a flat from the month in which it was added on. */
    private List<Long> usesOf(int flat) {
        List<Long> uses = new ArrayList<>();
        long counted = 0;
        for (int month = flats.get(flat).addedIn(); month < now(); month++) {
            long use = guess(uses);
            for (Shown shown : reads.getOrDefault(flat, List.of())) {
                if (shown.month() == month) {
                    use = Math.max(0, shown.shown() - counted);
                }
            }
            uses.add(use);
            counted += use;
        }
        return uses;
    }

    private static long guess(List<Long> uses) {
        List<Long> last = uses.subList(Math.max(0, uses.size() - 3), uses.size());
        return (long) last.stream().mapToLong(use -> use).average().orElse(0);
    }

    /** What each lease that runs bears of the heat of a month that has ended. */
    private Map<Integer, Long> heatsIn(int month) {
        Map<Integer, Long> found = heats.get(month);
        if (found == null) {
            found = findHeats(month);
            heats.put(month, found);
        }
        return found;
    }

    private Map<Integer, Long> findHeats(int month) {
        TreeMap<Integer, Long> rooms = new TreeMap<>();
        TreeMap<Integer, Long> uses = new TreeMap<>();
        for (int lease = 0; lease < lets.size(); lease++) {
            if (runs(lease, month)) {
                int flat = lets.get(lease).flat();
                rooms.put(lease, (long) flats.get(flat).rooms());
                uses.put(lease, usesOf(flat).get(month - flats.get(flat).addedIn()));
            }
        }
        long cost = costs.getOrDefault(month, 0);
        boolean unused = uses.values().stream().allMatch(use -> use == 0);
        long byRooms = unused ? cost : cost * 3 / 10;
        Map<Integer, Long> parts = new HashMap<>(shared(byRooms, rooms));
        if (!unused) {
            shared(cost - byRooms, uses).forEach((lease, part) -> parts.merge(lease, part, Long::sum));
        }
        return parts;
    }

    private static Map<Integer, Long> shared(long sum, TreeMap<Integer, Long> weights) {
        long all = weights.values().stream().mapToLong(weight -> weight).sum();
        Map<Integer, Long> parts = new HashMap<>();
        weights.forEach((lease, weight) -> parts.put(lease, sum * weight / all));
        long left = sum - parts.values().stream().mapToLong(part -> part).sum();
        List<Integer> byRemainder = new ArrayList<>(weights.keySet());
        byRemainder.sort(Comparator.comparing(lease -> -(sum * weights.get(lease) % all)));
        for (int i = 0; i < left && i < byRemainder.size(); i++) {
            parts.merge(byRemainder.get(i), 1L, Long::sum);
        }
        return parts;
    }

    /** By what was told of it before a point in the order of all that was told. */
    private int incomeIn(int lease, int month, long before) {
        int cents = 0;
        int toldFor = -1;
        for (Told told : incomes.getOrDefault(lease, List.of())) {
            if (told.order() < before && told.month() <= month && told.month() >= toldFor) {
                cents = told.cents();
                toldFor = told.month();
            }
        }
        return cents;
    }

    private static long benefit(long rent, long income) {
        return Math.max(0, Math.min(rent - income * 3 / 10, rent * 8 / 10));
    }

    private long benefitIn(int lease, int month, long before) {
        return benefit(loweredRent(lease, month), incomeIn(lease, month, before));
    }

    private long benefits(int lease, int untilMonth, long before) {
        long sum = 0;
        for (int month = 0; month < untilMonth; month++) {
            if (runs(lease, month)) {
                sum += benefitIn(lease, month, before);
            }
        }
        return sum;
    }

    private long paidAhead(int lease, int untilMonth) {
        long sum = 0;
        for (int month = 0; month < untilMonth; month++) {
            if (runs(lease, month)) {
                sum += paidAheadFor(lease, month, sum);
            }
        }
        return sum;
    }

    private long paidAheadFor(int lease, int month, long paidBefore) {
        String key = lease + " " + month;
        Long paid = ahead.get(key);
        if (paid == null) {
            long begun = monthEnds.get(month - 1);
            long due = benefit(rentOf(lease, month), incomeIn(lease, month, begun))
                    + benefits(lease, month, begun) - paidBefore;
            paid = Math.max(0, due);
            ahead.put(key, paid);
        }
        return paid;
    }

    private long owedBy(int lease, int untilMonth, long before) {
        long owed = 0;
        for (int month = 0; month < untilMonth; month++) {
            if (runs(lease, month)) {
                owed += loweredRent(lease, month) - benefitIn(lease, month, before)
                        + heatsIn(month).get(lease);
            }
        }
        for (Sum payment : payments.getOrDefault(lease, List.of())) {
            owed -= payment.order() < before ? payment.cents() : 0;
        }
        return owed;
    }

    private static long partOf(long owed, int parts) {
        return owed / parts + (owed % parts == 0 ? 0 : 1);
    }

    private static String written(long cents) {
        return String.format(java.util.Locale.GERMANY, "%,.2f", new java.math.BigDecimal(cents).movePointLeft(2));
    }
}
