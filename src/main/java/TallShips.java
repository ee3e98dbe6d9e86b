import java.util.Arrays;
import java.util.NoSuchElementException;

/**
 * Tall ships in a river: tides, quays and berths, the hours at which ships
 * come in, the parade and the gangways.
 */
public final class TallShips {
    public static final int NONE = -1;

    private static final int HOURS = 120;
    private static final int PLACES = 12;
    private static final int MOST_LEVEL = 80;
    private static final int MOST_SHIPS = 7;
    private static final int MOST_QUAYS = 4;
    private static final int FIRST_TUGS = 2;
    private static final int MOST_TUGS = 9;
    private static final int PLANK = 30;
    private static final int NO_SUCH_QUAY = -9999;

    private static final int BAR = 0;
    private static final int BRIDGE = 1;
    private static final int KEEL = 2;
    private static final int GAP = 3;
    private static final int SLOPE = 4;
    private static final int[] MOST_SETTING = {200, 900, 20, 100, 100};

    private static final int NOT_AFLOAT = 1;
    private static final int CANNOT_COME = 2;
    private static final int MISPLACED = 10;
    private static final int FOULING = 20;
    private static final int TOO_SHORT = 30;

    /*
     * Both searches look for the least sum of one number a ship. Its high bits
     * hold what counts first, its low bits (a few for each ship, the first ship
     * highest) what was chosen: so the sum settles every tie as the document
     * asks, no two choices have the same sum, and the choice is read off it.
     */
    private static final int SETS = 1 << MOST_SHIPS;
    private static final long IMPOSSIBLE = -1L;

    private static final int QUAY_BITS = 3;
    private static final int SHOW_SHIFT = QUAY_BITS * MOST_SHIPS;
    private static final int MOST_SHOW = 1000;
    private static final int MOVED_SHIFT = SHOW_SHIFT + 13;
    private static final int IDLE_SHIFT = MOVED_SHIFT + 3;

    private static final int HOUR_BITS = 7;
    private static final int WAIT_SHIFT = HOUR_BITS * MOST_SHIPS;

    private final River river;
    private final Fleet fleet;
    private final Quays quays;

    /* Rows of the searches, by set of ships (a bit for each): used again by every call. */
    private final long[] cheapest;
    private final long[] together;
    private final int[] span;
    private final int[] chances;

    public TallShips() {
        river = new River();
        fleet = new Fleet();
        quays = new Quays();
        cheapest = new long[SETS];
        together = new long[SETS];
        span = new int[SETS];
        chances = new int[MOST_SHIPS];
    }

    // ---- the river, ships, quays

    public boolean tide(int place, int level) {
        if (!within(place, 0, PLACES - 1) || !within(level, 0, MOST_LEVEL)) {
            return false;
        }
        river.levels[place] = level;
        return true;
    }

    public int set(int what, int v) {
        if (!within(what, BAR, SLOPE) || !within(v, 0, MOST_SETTING[what])) {
            return NONE;
        }
        int before = river.settings[what];
        river.settings[what] = v;
        return before;
    }

    public boolean tugs(int from, int to, int v) {
        if (!areHours(from, to) || !within(v, 0, MOST_TUGS)) {
            return false;
        }
        for (int hour = from; hour <= to; hour++) {
            river.tugsAt[hour] = v;
        }
        return true;
    }

    public int ship(int length, int draught, int height, int fame, int needs, int arrives, int stop) {
        boolean fits = within(length, 1, 1200) && within(draught, 1, 120) && within(height, 1, 700);
        boolean sails = within(fame, 0, 100) && within(needs, 0, 3) && isHour(arrives) && within(stop, 1, 60);
        if (!fits || !sails || fleet.size >= MOST_SHIPS) {
            return NONE;
        }
        int number = fleet.size;
        fleet.length[number] = length;
        fleet.draught[number] = draught;
        fleet.height[number] = height;
        fleet.fame[number] = fame;
        fleet.needs[number] = needs;
        fleet.arrival[number] = arrives;
        fleet.stop[number] = stop;
        fleet.size = number + 1;
        return number;
    }

    public int quay(int length, int depth, boolean above, int crowd, int deck) {
        boolean holds = within(length, 1, 4000) && within(depth, 1, 200);
        boolean shows = within(crowd, 0, 10) && within(deck, 0, 120);
        if (!holds || !shows || quays.size >= MOST_QUAYS) {
            return NONE;
        }
        int number = quays.size;
        quays.length[number] = length;
        quays.depth[number] = depth;
        quays.above[number] = above;
        quays.crowd[number] = crowd;
        quays.deck[number] = deck;
        quays.size = number + 1;
        return number;
    }

    public boolean foul(int a, int b, boolean is) {
        if (!fleet.has(a) || !fleet.has(b) || a == b) {
            return false;
        }
        if (is) {
            fleet.fouls[a] |= 1 << b;
            fleet.fouls[b] |= 1 << a;
        } else {
            fleet.fouls[a] &= ~(1 << b);
            fleet.fouls[b] &= ~(1 << a);
        }
        return true;
    }

    public int arrives(int ship, int hour) {
        if (!fleet.has(ship) || !isHour(hour)) {
            return NONE;
        }
        int before = fleet.arrival[ship];
        fleet.arrival[ship] = hour;
        return before;
    }

    public int count(int what) {
        switch (what) {
            case 0:
                return fleet.size;
            case 1:
                return quays.size;
            case 2:
                return Integer.bitCount(fleet.berthed());
            case 3:
                return showOfBerths();
            case 4:
                return river.leastLevel();
            case 5:
                return river.greatestLevel();
            default:
                return NONE;
        }
    }

    public int first(int ship, int hour, int how) {
        if (!fleet.has(ship) || !isHour(hour) || !within(how, 0, 1)) {
            return NONE;
        }
        return firstWayIn(ship, hour, how == 1);
    }

    public int may(int ship, int quay) {
        if (!fleet.has(ship) || !quays.has(quay)) {
            return NONE;
        }
        return hindrance(ship, quay);
    }

    // ---- berths

    public boolean put(int ship, int quay) {
        if (!fleet.has(ship) || (quay != NONE && !quays.has(quay))) {
            return false;
        }
        fleet.berth[ship] = quay;
        return true;
    }

    public int at(int ship) throws NoSuchElementException {
        if (!fleet.has(ship)) {
            throw new NoSuchElementException("no such ship");
        }
        return fleet.berth[ship];
    }

    public int wrong() {
        int misplaced = firstMisplaced();
        if (misplaced != NONE) {
            return MISPLACED + misplaced;
        }
        int fouling = firstFouling();
        if (fouling != NONE) {
            return FOULING + fouling;
        }
        int tooShort = firstTooShort();
        return tooShort == NONE ? 0 : TOO_SHORT + tooShort;
    }

    public int best() {
        berthAll(leastBerths(false));
        return Integer.bitCount(fleet.berthed());
    }

    public int mend() {
        return berthAll(leastBerths(true));
    }

    public int left(int quay) {
        if (!quays.has(quay)) {
            return NO_SUCH_QUAY;
        }
        return roomLeft(quay);
    }

    // ---- in

    public int plan() {
        int comers = fleet.berthed();
        long least = leastPlan(comers);
        if (least == IMPOSSIBLE) {
            return NONE;
        }
        keepPlan(comers, least);
        return (int) (least >> WAIT_SHIFT);
    }

    public int in(int ship) {
        return fleet.has(ship) ? fleet.hourIn[ship] : NONE;
    }

    // ---- parade, visitors

    public int parade(int i) {
        for (int ship = 0; ship < fleet.size; ship++) {
            if (fleet.isBerthed(ship) && fleet.aheadOf(ship) == i) {
                return ship;
            }
        }
        return NONE;
    }

    public int minutes() {
        int sum = 0;
        int ahead = parade(0);
        for (int i = 1; i < MOST_SHIPS; i++) {
            int behind = parade(i);
            if (!fleet.has(ahead) || !fleet.has(behind)) {
                return sum;
            }
            sum += Math.max(fleet.stop[ahead], fleet.stop[behind]);
            ahead = behind;
        }
        return sum;
    }

    public int open(int ship, int from, int to) {
        if (!fleet.has(ship) || !areHours(from, to) || !quays.has(fleet.berth[ship])) {
            return NONE;
        }
        int hours = 0;
        for (int hour = from; hour <= to; hour++) {
            if (!isSteep(fleet.berth[ship], hour)) {
                hours++;
            }
        }
        return hours;
    }

    // ---- what a call may name

    private static boolean within(int v, int least, int most) {
        return v >= least && v <= most;
    }

    private static boolean isHour(int hour) {
        return within(hour, 0, HOURS - 1);
    }

    private static boolean areHours(int from, int to) {
        return isHour(from) && isHour(to) && from <= to;
    }

    // ---- ways in

    private boolean canCross(int ship, int level) {
        int needed = fleet.draught[ship] + river.settings[KEEL];
        return river.settings[BAR] + level >= needed;
    }

    private boolean clearsBridge(int ship, int level) {
        int top = fleet.height[ship] + level + river.settings[KEEL];
        return top <= river.settings[BRIDGE];
    }

    private boolean hasWayIn(int ship, int hour, boolean above) {
        int level = river.levelAt(hour);
        return canCross(ship, level) && (!above || clearsBridge(ship, level));
    }

    private int firstWayIn(int ship, int from, boolean above) {
        for (int hour = from; hour < HOURS; hour++) {
            if (hasWayIn(ship, hour, above)) {
                return hour;
            }
        }
        return NONE;
    }

    private boolean isAfloat(int ship, int quay) {
        int needed = fleet.draught[ship] + river.settings[KEEL];
        return quays.depth[quay] + river.leastLevel() >= needed;
    }

    private int hindrance(int ship, int quay) {
        if (!isAfloat(ship, quay)) {
            return NOT_AFLOAT;
        }
        int hour = firstWayIn(ship, fleet.arrival[ship], quays.above[quay]);
        return hour == NONE ? CANNOT_COME : 0;
    }

    private boolean isSteep(int quay, int hour) {
        int rise = quays.deck[quay] - (river.levelAt(hour) + PLANK);
        return Math.abs(rise) > river.settings[SLOPE];
    }

    // ---- the berths as they are

    private int showOfBerths() {
        int sum = 0;
        for (int ship = 0; ship < fleet.size; ship++) {
            sum += showAt(ship, fleet.berth[ship]);
        }
        return sum;
    }

    private int showAt(int ship, int quay) {
        return quays.has(quay) ? fleet.fame[ship] * quays.crowd[quay] : 0;
    }

    private int firstMisplaced() {
        for (int ship = 0; ship < fleet.size; ship++) {
            int quay = fleet.berth[ship];
            if (quays.has(quay) && hindrance(ship, quay) != 0) {
                return ship;
            }
        }
        return NONE;
    }

    private int firstFouling() {
        for (int ship = 0; ship < fleet.size; ship++) {
            int quay = fleet.berth[ship];
            if (quays.has(quay) && (fleet.fouls[ship] & fleet.berthedAt(quay)) != 0) {
                return ship;
            }
        }
        return NONE;
    }

    private int firstTooShort() {
        for (int quay = 0; quay < quays.size; quay++) {
            if (roomLeft(quay) < 0) {
                return quay;
            }
        }
        return NONE;
    }

    private int roomLeft(int quay) {
        int room = quays.length[quay];
        int before = 0;
        for (int ship = 0; ship < fleet.size; ship++) {
            if (fleet.berth[ship] == quay) {
                room -= fleet.length[ship] + (before > 0 ? river.settings[GAP] : 0);
                before++;
            }
        }
        return room;
    }

    // ---- the search for berths

    /** The least sum over all good berths; those that are moved count only if the nearest are sought. */
    private long leastBerths(boolean nearest) {
        startIdle(nearest);
        measureSpans();
        for (int quay = 0; quay < quays.size; quay++) {
            weighSets(quay, nearest);
            offerQuay();
        }
        return cheapest[fleet.all()];
    }

    private void startIdle(boolean nearest) {
        cheapest[0] = 0L;
        for (int ship = 0; ship < fleet.size; ship++) {
            int bit = 1 << ship;
            long idle = berthCost(ship, NONE, nearest);
            for (int rest = 0; rest < bit; rest++) {
                cheapest[bit | rest] = cheapest[rest] + idle;
            }
        }
    }

    /** The length that each set of ships takes side by side, with one gap too many, before the first. */
    private void measureSpans() {
        span[0] = 0;
        for (int ship = 0; ship < fleet.size; ship++) {
            int bit = 1 << ship;
            int more = fleet.length[ship] + river.settings[GAP];
            for (int rest = 0; rest < bit; rest++) {
                span[bit | rest] = span[rest] + more;
            }
        }
    }

    /** What each set of ships sums to when all of it lies at the quay. */
    private void weighSets(int quay, boolean nearest) {
        int longest = quays.length[quay] + river.settings[GAP];
        together[0] = 0L;
        for (int ship = 0; ship < fleet.size; ship++) {
            int bit = 1 << ship;
            boolean allowed = hindrance(ship, quay) == 0;
            long cost = berthCost(ship, quay, nearest);
            for (int rest = 0; rest < bit; rest++) {
                boolean good = allowed && together[rest] != IMPOSSIBLE
                        && (fleet.fouls[ship] & rest) == 0 && span[bit | rest] <= longest;
                together[bit | rest] = good ? together[rest] + cost : IMPOSSIBLE;
            }
        }
    }

    /** Lets every set of ships send a part of it to the quay that was weighed. */
    private void offerQuay() {
        // From the greatest set down, for what is left behind by a part must not use this quay twice.
        for (int some = fleet.all(); some > 0; some--) {
            long least = cheapest[some];
            // (part - 1) & some is the next smaller part of the set, so this ends at 0.
            for (int part = some; part > 0; part = (part - 1) & some) {
                if (together[part] != IMPOSSIBLE) {
                    least = Math.min(least, together[part] + cheapest[some ^ part]);
                }
            }
            cheapest[some] = least;
        }
    }

    private long berthCost(int ship, int quay, boolean nearest) {
        long choice = quay == NONE ? MOST_QUAYS : quay;
        long lostShow = MOST_SHOW - showAt(ship, quay);
        long moved = nearest && quay != fleet.berth[ship] ? 1L : 0L;
        long idle = quay == NONE ? 1L : 0L;
        return (choice << lowShift(ship, QUAY_BITS)) + (lostShow << SHOW_SHIFT)
                + (moved << MOVED_SHIFT) + (idle << IDLE_SHIFT);
    }

    /** Gives each ship the berth that the sum holds: how many of them that moves. */
    private int berthAll(long sum) {
        int moved = 0;
        for (int ship = 0; ship < fleet.size; ship++) {
            int choice = lowChoice(sum, ship, QUAY_BITS);
            int quay = quays.has(choice) ? choice : NONE;
            if (quay != fleet.berth[ship]) {
                moved++;
            }
            fleet.berth[ship] = quay;
        }
        return moved;
    }

    private static int lowShift(int ship, int bits) {
        return bits * (MOST_SHIPS - 1 - ship);
    }

    private static int lowChoice(long sum, int ship, int bits) {
        long choice = (sum >> lowShift(ship, bits)) & ((1L << bits) - 1L);
        return (int) choice;
    }

    // ---- the search for hours

    /** The least sum over all plans that bring every comer in, or IMPOSSIBLE. */
    private long leastPlan(int comers) {
        Arrays.fill(cheapest, IMPOSSIBLE);
        cheapest[0] = 0L;
        Arrays.fill(chances, 0);
        for (int hour = 0; hour < HOURS; hour++) {
            int ready = readyAt(hour, comers);
            if (ready != 0) {
                offerHour(hour, ready, comers);
            }
        }
        return cheapest[comers];
    }

    /**
     * The comers that can come in at the hour. A ship's first hours, as many as
     * there are comers, are enough: the others can't take all of them.
     */
    private int readyAt(int hour, int comers) {
        int enough = Integer.bitCount(comers);
        int ready = 0;
        for (int ship = 0; ship < fleet.size; ship++) {
            boolean comes = (comers & (1 << ship)) != 0 && chances[ship] < enough;
            if (comes && canComeIn(ship, hour)) {
                chances[ship]++;
                ready |= 1 << ship;
            }
        }
        return ready;
    }

    private boolean canComeIn(int ship, int hour) {
        int quay = fleet.berth[ship];
        return quays.has(quay) && hour >= fleet.arrival[ship]
                && fleet.needs[ship] <= river.tugsAt[hour]
                && hasWayIn(ship, hour, quays.above[quay]);
    }

    /** Lets every set of comers have one of the ready ships come in last, at the hour. */
    private void offerHour(int hour, int ready, int comers) {
        // From the greatest set down, for no two ships may share the hour.
        for (int some = comers; some > 0; some--) {
            for (int ship = 0; ship < fleet.size; ship++) {
                int bit = 1 << ship;
                if ((some & ready & bit) != 0 && cheapest[some ^ bit] != IMPOSSIBLE) {
                    long sum = cheapest[some ^ bit] + hourCost(ship, hour);
                    if (cheapest[some] == IMPOSSIBLE || sum < cheapest[some]) {
                        cheapest[some] = sum;
                    }
                }
            }
        }
    }

    private long hourCost(int ship, int hour) {
        long wait = hour - fleet.arrival[ship];
        return (wait << WAIT_SHIFT) + ((long) hour << lowShift(ship, HOUR_BITS));
    }

    private void keepPlan(int comers, long sum) {
        for (int ship = 0; ship < fleet.size; ship++) {
            boolean comes = (comers & (1 << ship)) != 0;
            fleet.hourIn[ship] = comes ? lowChoice(sum, ship, HOUR_BITS) : NONE;
        }
    }

    // ---- what is kept

    private static final class River {
        final int[] levels;
        final int[] tugsAt;
        final int[] settings;

        River() {
            levels = new int[PLACES];
            tugsAt = new int[HOURS];
            settings = new int[] {40, 500, 5, 10, 40};
            Arrays.fill(tugsAt, FIRST_TUGS);
        }

        int levelAt(int hour) {
            return levels[hour % PLACES];
        }

        int leastLevel() {
            int least = MOST_LEVEL;
            for (int place = 0; place < PLACES; place++) {
                least = Math.min(least, levels[place]);
            }
            return least;
        }

        int greatestLevel() {
            int greatest = 0;
            for (int place = 0; place < PLACES; place++) {
                greatest = Math.max(greatest, levels[place]);
            }
            return greatest;
        }
    }

    private static final class Fleet {
        int size;
        final int[] length;
        final int[] draught;
        final int[] height;
        final int[] fame;
        final int[] needs;
        final int[] arrival;
        final int[] stop;
        /* For each ship a bit for each one that it fouls. */
        final int[] fouls;
        final int[] berth;
        final int[] hourIn;

        Fleet() {
            size = 0;
            length = new int[MOST_SHIPS];
            draught = new int[MOST_SHIPS];
            height = new int[MOST_SHIPS];
            fame = new int[MOST_SHIPS];
            needs = new int[MOST_SHIPS];
            arrival = new int[MOST_SHIPS];
            stop = new int[MOST_SHIPS];
            fouls = new int[MOST_SHIPS];
            berth = new int[MOST_SHIPS];
            hourIn = new int[MOST_SHIPS];
            Arrays.fill(berth, NONE);
            Arrays.fill(hourIn, NONE);
        }

        boolean has(int ship) {
            return ship >= 0 && ship < size;
        }

        int all() {
            return (1 << size) - 1;
        }

        boolean isBerthed(int ship) {
            return berth[ship] != NONE;
        }

        /** The set of ships that have a berth. */
        int berthed() {
            int some = 0;
            for (int ship = 0; ship < size; ship++) {
                if (isBerthed(ship)) {
                    some |= 1 << ship;
                }
            }
            return some;
        }

        int berthedAt(int quay) {
            int some = 0;
            for (int ship = 0; ship < size; ship++) {
                if (berth[ship] == quay) {
                    some |= 1 << ship;
                }
            }
            return some;
        }

        /** How many ships of the parade are ahead of one that has a berth. */
        int aheadOf(int ship) {
            int ahead = 0;
            for (int other = 0; other < size; other++) {
                boolean before = fame[other] > fame[ship] || (fame[other] == fame[ship] && other < ship);
                if (isBerthed(other) && before) {
                    ahead++;
                }
            }
            return ahead;
        }
    }

    private static final class Quays {
        int size;
        final int[] length;
        final int[] depth;
        final boolean[] above;
        final int[] crowd;
        final int[] deck;

        Quays() {
            size = 0;
            length = new int[MOST_QUAYS];
            depth = new int[MOST_QUAYS];
            above = new boolean[MOST_QUAYS];
            crowd = new int[MOST_QUAYS];
            deck = new int[MOST_QUAYS];
        }

        boolean has(int quay) {
            return quay >= 0 && quay < size;
        }
    }
}
