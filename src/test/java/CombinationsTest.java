/**
 * Each call with every combination of numbers at, just within and just beyond the edges of
 * what it may name, more than one of them wrong at once too: answers as the model's, and
 * behind each call that may change the river all questions are asked of both.
 */
public final class CombinationsTest {
    private static final int MIN = Integer.MIN_VALUE;
    private static final int MAX = Integer.MAX_VALUE;
    private static final int[] SHIPS = {MIN, -2, -1, 0, 1, 2, 3, 6, 7, 8, MAX};
    private static final int[] QUAYS = {MIN, -2, -1, 0, 1, 2, 3, 4, 5, MAX};
    private static final int[] HOURS = {MIN, -1, 0, 1, 11, 12, 60, 118, 119, 120, 121, MAX};
    private static final int[] WHATS = {MIN, -1, 0, 1, 2, 3, 4, 5, 6, MAX};
    private static final int[] SHIP = {300, 30, 400, 50, 1, 5, 10};
    private static final int[] QUAY = {1500, 60, 0, 3, 40};
    private static final int[] LEAST_QUAY = {1, 1, 0, 0, 0};
    private static final int[] MOST_QUAY = {4000, 200, 1, 10, 120};

    public static void main(String[] args) {
        int[][] sizes = {{0, 0}, {1, 0}, {0, 1}, {3, 2}, {7, 4}};
        for (int[] size : sizes) {
            questions(size[0], size[1]);
            changes(size[0], size[1]);
        }
        ships();
        quays();
        Due.end("combinations");
    }

    private static Twin river(int ships, int quays) {
        Twin twin = new Twin(ships + " ships, " + quays + " quays");
        for (int place = 0; place < 12; place++) {
            twin.tide(place, Scenes.LEVELS[place]);
        }
        for (int what = 0; what < 5; what++) {
            twin.set(what, Scenes.SETTINGS[what]);
        }
        for (int i = 0; i < ships; i++) {
            twin.ship(Scenes.SHIPS[i]);
        }
        for (int i = 0; i < quays; i++) {
            twin.quay(Scenes.QUAYS[i]);
        }
        for (int ship = 0; ship < ships && quays > 0; ship += 2) {
            twin.put(ship, ship % quays);
        }
        twin.plan();
        return twin;
    }

    private static void questions(int ships, int quays) {
        Twin twin = river(ships, quays);
        for (int ship : SHIPS) {
            twin.at(ship);
            twin.in(ship);
            twin.parade(ship);
            for (int quay : QUAYS) {
                twin.may(ship, quay);
            }
            for (int hour : HOURS) {
                for (int how : new int[] {MIN, -1, 0, 1, 2, MAX}) {
                    twin.first(ship, hour, how);
                }
                for (int to : HOURS) {
                    twin.open(ship, hour, to);
                }
            }
        }
        for (int quay : QUAYS) {
            twin.left(quay);
        }
        for (int what : WHATS) {
            twin.count(what);
        }
        twin.askAll();
    }

    private static void changes(int ships, int quays) {
        Twin twin = river(ships, quays);
        for (int ship : SHIPS) {
            for (int hour : HOURS) {
                twin.arrives(ship, hour);
                askAfter(twin);
            }
            for (int quay : QUAYS) {
                twin.put(ship, quay);
                askAfter(twin);
            }
            for (int other : SHIPS) {
                twin.foul(ship, other, true);
                askAfter(twin);
                twin.foul(other, ship, (ship & other & 1) == 0);
                askAfter(twin);
            }
        }
        for (int from : HOURS) {
            for (int to : HOURS) {
                for (int v : new int[] {MIN, -1, 0, 2, 3, 9, 10, MAX}) {
                    twin.tugs(from, to, v);
                    askAfter(twin);
                }
            }
        }
        for (int what : WHATS) {
            for (int v : new int[] {MIN, -1, 0, 20, 21, 40, 100, 101, 200, 201, 900, 901, MAX}) {
                twin.set(what, v);
                askAfter(twin);
            }
        }
        for (int place : new int[] {MIN, -1, 0, 1, 10, 11, 12, 13, MAX}) {
            for (int level : new int[] {MIN, -1, 0, 1, 79, 80, 81, MAX}) {
                twin.tide(place, level);
                askAfter(twin);
            }
        }
    }

    private static void askAfter(Twin twin) {
        twin.askAll();
        twin.plan();
        for (int ship = 0; ship < twin.model.ships; ship++) {
            twin.open(ship, 0, 119);
            for (int quay = 0; quay < twin.model.quays; quay++) {
                twin.may(ship, quay);
            }
        }
    }

    private static int[] edges(int least, int most) {
        return new int[] {MIN, least - 1, least, most, most + 1, MAX};
    }

    /** Each two of a ship's numbers at or beyond their edges, the others ordinary. */
    private static void ships() {
        for (int i = 0; i < 7; i++) {
            for (int j = i + 1; j < 7; j++) {
                for (int v : edges(Scenes.LEAST_SHIP[i], Scenes.MOST_SHIP[i])) {
                    for (int w : edges(Scenes.LEAST_SHIP[j], Scenes.MOST_SHIP[j])) {
                        int[] ship = SHIP.clone();
                        ship[i] = v;
                        ship[j] = w;
                        Twin twin = river(2, 2);
                        twin.ship(ship);
                        askAfter(twin);
                        twin.mend();
                        askAfter(twin);
                    }
                }
            }
        }
    }

    private static void quays() {
        for (int i = 0; i < 5; i++) {
            for (int j = i + 1; j < 5; j++) {
                for (int v : edges(LEAST_QUAY[i], MOST_QUAY[i])) {
                    for (int w : edges(LEAST_QUAY[j], MOST_QUAY[j])) {
                        int[] quay = QUAY.clone();
                        quay[i] = v;
                        quay[j] = w;
                        // A quay is above or not; no other number can be given for it.
                        quay[2] = quay[2] == 1 ? 1 : 0;
                        Twin twin = river(3, 1);
                        twin.quay(quay);
                        askAfter(twin);
                        twin.mend();
                        askAfter(twin);
                    }
                }
            }
        }
    }
}
