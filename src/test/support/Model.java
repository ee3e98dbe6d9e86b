import java.util.Arrays;

/** The document's words, taken one by one; ships and quays are rows of the calls' arguments. */
final class Model {
    private static final int NONE = -1;

    final int[] tide = new int[12];
    final int[] set = {40, 500, 5, 10, 40};
    final int[] tugs = new int[120];
    final int[][] ship = new int[7][];
    final int[][] quay = new int[4][];
    final boolean[][] foul = new boolean[7][7];
    int[] berth = {NONE, NONE, NONE, NONE, NONE, NONE, NONE};
    int[] kept = {NONE, NONE, NONE, NONE, NONE, NONE, NONE};
    int ships = 0;
    int quays = 0;

    final boolean[][] allowed = new boolean[7][4];
    int[] chosen;
    int[] chosenKey;

    Model() {
        Arrays.fill(tugs, 2);
    }

    static boolean ok(int v, int least, int most) {
        return least <= v && v <= most;
    }

    boolean tide(int place, int level) {
        if (!ok(place, 0, 11) || !ok(level, 0, 80)) {
            return false;
        }
        tide[place] = level;
        return true;
    }

    int set(int what, int v) {
        if (!ok(what, 0, 4) || !ok(v, 0, new int[] {200, 900, 20, 100, 100}[what])) {
            return NONE;
        }
        int was = set[what];
        set[what] = v;
        return was;
    }

    boolean tugs(int from, int to, int v) {
        if (!ok(from, 0, 119) || !ok(to, from, 119) || !ok(v, 0, 9)) {
            return false;
        }
        Arrays.fill(tugs, from, to + 1, v);
        return true;
    }

    int ship(int[] s) {
        int[] least = {1, 1, 1, 0, 0, 0, 1};
        int[] most = {1200, 120, 700, 100, 3, 119, 60};
        for (int i = 0; i < 7; i++) {
            if (!ok(s[i], least[i], most[i])) {
                return NONE;
            }
        }
        if (ships == 7) {
            return NONE;
        }
        ship[ships] = s.clone();
        return ships++;
    }

    int quay(int[] q) {
        int[] least = {1, 1, 0, 0, 0};
        int[] most = {4000, 200, 1, 10, 120};
        for (int i = 0; i < 5; i++) {
            if (!ok(q[i], least[i], most[i])) {
                return NONE;
            }
        }
        if (quays == 4) {
            return NONE;
        }
        quay[quays] = q.clone();
        return quays++;
    }

    boolean foul(int a, int b, boolean is) {
        if (!ok(a, 0, ships - 1) || !ok(b, 0, ships - 1) || a == b) {
            return false;
        }
        foul[a][b] = is;
        foul[b][a] = is;
        return true;
    }

    int arrives(int s, int hour) {
        if (!ok(s, 0, ships - 1) || !ok(hour, 0, 119)) {
            return NONE;
        }
        int was = ship[s][5];
        ship[s][5] = hour;
        return was;
    }

    int count(int what) {
        switch (what) {
            case 0:
                return ships;
            case 1:
                return quays;
            case 2:
                return berthed(berth);
            case 3:
                return show(berth);
            case 4:
                return Arrays.stream(tide).min().getAsInt();
            case 5:
                return Arrays.stream(tide).max().getAsInt();
            default:
                return NONE;
        }
    }

    int berthed(int[] b) {
        int n = 0;
        for (int s = 0; s < ships; s++) {
            n += b[s] != NONE ? 1 : 0;
        }
        return n;
    }

    int show(int[] b) {
        int sum = 0;
        for (int s = 0; s < ships; s++) {
            sum += b[s] != NONE ? ship[s][3] * quay[b[s]][3] : 0;
        }
        return sum;
    }

    boolean comes(int s, int hour, boolean pass) {
        int level = tide[hour % 12];
        if (set[0] + level < ship[s][1] + set[2]) {
            return false;
        }
        return !pass || ship[s][2] + level + set[2] <= set[1];
    }

    int first(int s, int hour, int how) {
        if (!ok(s, 0, ships - 1) || !ok(hour, 0, 119) || !ok(how, 0, 1)) {
            return NONE;
        }
        for (int h = hour; h < 120; h++) {
            if (comes(s, h, how == 1)) {
                return h;
            }
        }
        return NONE;
    }

    int may(int s, int q) {
        if (!ok(s, 0, ships - 1) || !ok(q, 0, quays - 1)) {
            return NONE;
        }
        if (quay[q][1] + count(4) < ship[s][1] + set[2]) {
            return 1;
        }
        return first(s, ship[s][5], quay[q][2]) == NONE ? 2 : 0;
    }

    boolean put(int s, int q) {
        if (!ok(s, 0, ships - 1) || !ok(q, -1, quays - 1)) {
            return false;
        }
        berth[s] = q;
        return true;
    }

    int at(int s) {
        return ok(s, 0, ships - 1) ? berth[s] : Due.THROWN;
    }

    int wrongOf(int[] b) {
        for (int s = 0; s < ships; s++) {
            if (b[s] != NONE && may(s, b[s]) != 0) {
                return 10 + s;
            }
        }
        for (int s = 0; s < ships; s++) {
            for (int t = 0; t < ships; t++) {
                if (b[s] != NONE && b[s] == b[t] && foul[s][t]) {
                    return 20 + s;
                }
            }
        }
        for (int q = 0; q < quays; q++) {
            if (leftOf(b, q) < 0) {
                return 30 + q;
            }
        }
        return 0;
    }

    int wrongBerths() {
        return wrongOf(berth);
    }

    int leftOf(int[] b, int q) {
        int n = 0;
        int sum = 0;
        for (int s = 0; s < ships; s++) {
            if (b[s] == q) {
                n++;
                sum += ship[s][0];
            }
        }
        return quay[q][0] - sum - Math.max(0, n - 1) * set[3];
    }

    int left(int q) {
        return ok(q, 0, quays - 1) ? leftOf(berth, q) : -9999;
    }

    int best() {
        search(false);
        berth = chosen;
        return berthed(berth);
    }

    int mend() {
        search(true);
        int n = moved(chosen);
        berth = chosen;
        return n;
    }

    int moved(int[] b) {
        int n = 0;
        for (int s = 0; s < ships; s++) {
            n += b[s] != berth[s] ? 1 : 0;
        }
        return n;
    }

    void search(boolean near) {
        chosen = null;
        int[] b = new int[7];
        Arrays.fill(b, NONE);
        for (int s = 0; s < ships; s++) {
            for (int q = 0; q < quays; q++) {
                allowed[s][q] = may(s, q) == 0;
            }
        }
        tryShip(0, b, near);
    }

    /** Quays in their order and none last, so of equal ones the first that is found is due. */
    void tryShip(int s, int[] b, boolean near) {
        if (s == ships) {
            int[] key = {-berthed(b), near ? moved(b) : 0, -show(b)};
            if (chosen == null || Arrays.compare(key, chosenKey) < 0) {
                chosen = b.clone();
                chosenKey = key;
            }
            return;
        }
        for (int q = 0; q <= quays; q++) {
            b[s] = q == quays ? NONE : q;
            if (q == quays || joins(s, b)) {
                tryShip(s + 1, b, near);
            }
        }
        b[s] = NONE;
    }

    /** Whether ship s may lie where it does with the ships before it; those behind it are at none yet. */
    boolean joins(int s, int[] b) {
        if (!allowed[s][b[s]] || leftOf(b, b[s]) < 0) {
            return false;
        }
        for (int t = 0; t < s; t++) {
            if (b[t] == b[s] && foul[s][t]) {
                return false;
            }
        }
        return true;
    }

    int planSum;

    int plan() {
        planSum = Integer.MAX_VALUE;
        int[] hours = new int[7];
        Arrays.fill(hours, NONE);
        tryHour(0, 0, hours);
        return planSum == Integer.MAX_VALUE ? NONE : planSum;
    }

    void tryHour(int s, int sum, int[] hours) {
        if (sum + leastRest(s) >= planSum) {
            return;
        }
        if (s == ships) {
            planSum = sum;
            kept = hours.clone();
            return;
        }
        if (berth[s] == NONE) {
            tryHour(s + 1, sum, hours);
            return;
        }
        // A ship that takes an hour behind so many of its own leaves a free one before it: that is never
        // least. Where few ships come, all hours are tried all the same.
        int comers = berthed(berth);
        int tries = comers <= 3 ? 120 : comers + 2;
        for (int h = ship[s][5]; h < 120 && tries > 0; h++) {
            tries -= canHave(s, h) ? 1 : 0;
            boolean free = true;
            for (int t = 0; t < s; t++) {
                free &= hours[t] != h;
            }
            if (free && canHave(s, h)) {
                hours[s] = h;
                tryHour(s + 1, sum + h - ship[s][5], hours);
                hours[s] = NONE;
            }
        }
    }

    boolean canHave(int s, int h) {
        return ship[s][4] <= tugs[h] && comes(s, h, quay[berth[s]][2] == 1);
    }

    /** What the ships from s on wait at least, each as if alone; enough to cut off hopeless tries. */
    int leastRest(int s) {
        int sum = 0;
        for (int t = s; t < ships; t++) {
            if (berth[t] != NONE) {
                int h = ship[t][5];
                while (h < 120 && !canHave(t, h)) {
                    h++;
                }
                if (h == 120) {
                    return 100000000;
                }
                sum += h - ship[t][5];
            }
        }
        return sum;
    }

    int in(int s) {
        return ok(s, 0, ships - 1) ? kept[s] : NONE;
    }

    int parade(int i) {
        Integer[] order = new Integer[ships];
        int n = 0;
        for (int s = 0; s < ships; s++) {
            if (berth[s] != NONE) {
                order[n++] = s;
            }
        }
        Arrays.sort(order, 0, n, (a, b) -> ship[b][3] - ship[a][3]);
        return ok(i, 0, n - 1) ? order[i] : NONE;
    }

    int minutes() {
        int sum = 0;
        for (int i = 1; parade(i) != NONE; i++) {
            sum += Math.max(ship[parade(i - 1)][6], ship[parade(i)][6]);
        }
        return sum;
    }

    int open(int s, int from, int to) {
        if (!ok(s, 0, ships - 1) || !ok(from, 0, 119) || !ok(to, from, 119) || berth[s] == NONE) {
            return NONE;
        }
        int n = 0;
        for (int h = from; h <= to; h++) {
            n += Math.abs(quay[berth[s]][4] - tide[h % 12] - 30) <= set[4] ? 1 : 0;
        }
        return n;
    }
}
