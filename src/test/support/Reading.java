import java.util.LinkedHashMap;
import java.util.Map;
import java.util.function.IntPredicate;
import java.util.function.Supplier;

/**
 * All that can be known of a river, by name. Most of it shows only through calls
 * that change the river, so each reading is taken from one that was made anew.
 */
final class Reading {
    private static final int NONE = -1;

    private final Supplier<TallShips> maker;
    private final Map<String, Integer> found = new LinkedHashMap<>();
    private final int ships;
    private final int quays;
    private final int freeShips;
    private final int freeQuays;

    private Reading(Supplier<TallShips> maker) {
        this.maker = maker;
        TallShips x = maker.get();
        ships = x.count(0);
        quays = x.count(1);
        freeShips = Math.min(7, ships + 3);
        freeQuays = Math.max(1, quays);
    }

    static Map<String, Integer> of(Supplier<TallShips> maker) {
        Reading reading = new Reading(maker);
        reading.plainAnswers();
        reading.settings();
        reading.levels();
        reading.ships();
        reading.quays();
        reading.tugs();
        reading.pairs();
        return reading.found;
    }

    private void plainAnswers() {
        TallShips x = maker.get();
        for (int what = 0; what <= 5; what++) {
            found.put("count " + what, x.count(what));
        }
        for (int ship = 0; ship < 7; ship++) {
            found.put("at " + ship, Due.at(x, ship));
            found.put("in " + ship, x.in(ship));
            found.put("parade " + ship, x.parade(ship));
        }
        for (int quay = 0; quay < 4; quay++) {
            found.put("left " + quay, x.left(quay));
        }
        found.put("wrong", x.wrong());
        found.put("minutes", x.minutes());
    }

    private void settings() {
        TallShips x = maker.get();
        for (int what = 0; what < 5; what++) {
            found.put("setting " + what, x.set(what, 0));
        }
    }

    /** With all others at the greatest, the least level is the one of the place. */
    private void levels() {
        for (int place = 0; place < 12; place++) {
            TallShips x = maker.get();
            for (int other = 0; other < 12; other++) {
                if (other != place) {
                    x.tide(other, 80);
                }
            }
            found.put("level " + place, x.count(4));
        }
    }

    /** The river again, with no ship at a quay, nothing in any ship's way, and at least a quay and some ships. */
    private TallShips free() {
        TallShips x = maker.get();
        x.set(0, 200);
        x.set(1, 900);
        x.set(2, 0);
        for (int ship = 0; ship < ships; ship++) {
            x.put(ship, NONE);
        }
        if (quays == 0) {
            x.quay(4000, 200, false, 1, 30);
        }
        for (int needs = 1; ships + needs <= freeShips; needs++) {
            x.ship(1, 1, 1, 1, needs, 0, 1);
        }
        return x;
    }

    private void ships() {
        for (int ship = 0; ship < ships; ship++) {
            int number = ship;
            TallShips x = free();
            int before = x.left(0);
            x.put(ship, 0);
            found.put("length of ship " + ship, before - x.left(0));
            found.put("arrives of ship " + ship, x.arrives(ship, 0));
            found.put("needs of ship " + ship, least(0, 3, tugs -> {
                x.tugs(0, 119, tugs);
                return x.plan() != NONE;
            }));
            Scenes.flat(x, 0);
            found.put("draught of ship " + ship, least(0, 200, bar -> {
                x.set(0, bar);
                return x.first(number, 0, 0) == 0;
            }));
            x.set(0, 200);
            found.put("height of ship " + ship, least(0, 900, bridge -> {
                x.set(1, bridge);
                return x.first(number, 0, 1) == 0;
            }));
        }
    }

    private void quays() {
        for (int quay = 0; quay < quays; quay++) {
            TallShips x = free();
            found.put("length of quay " + quay, x.left(quay));
            for (int ship = 0; ship < freeShips; ship++) {
                berth(ship, quay);
            }
        }
    }

    private void berth(int ship, int quay) {
        String name = " of ship " + ship + " at quay " + quay;
        TallShips x = free();
        x.put(ship, quay);
        found.put("show" + name, x.count(3));
        x.tugs(0, 119, 9);
        x.set(1, 0);
        found.put("below the bridge" + name, x.plan());
        Scenes.flat(x, 0);
        found.put("gangway at level 0" + name, leastSlope(x, ship));
        Scenes.flat(x, 80);
        found.put("gangway at level 80" + name, leastSlope(x, ship));
        x.set(2, 20);
        found.put("afloat from level" + name, least(0, 80, level -> {
            Scenes.flat(x, level);
            return x.may(ship, quay) != 1;
        }));
    }

    private static int leastSlope(TallShips x, int ship) {
        return least(0, 100, slope -> {
            x.set(4, slope);
            return x.open(ship, 0, 0) == 1;
        });
    }

    /** How long each ship waits for tugs enough, alone and from each hour on. */
    private void tugs() {
        for (int ship = 0; ship < freeShips; ship++) {
            TallShips x = free();
            x.put(ship, 0);
            for (int hour = 0; hour < 120; hour++) {
                x.arrives(ship, hour);
                found.put("wait of ship " + ship + " from " + hour, x.plan());
            }
        }
    }

    private void pairs() {
        for (int a = 0; a < freeShips; a++) {
            for (int b = a + 1; b < freeShips; b++) {
                TallShips x = free();
                x.put(a, 0);
                x.put(b, 0);
                String name = " of ships " + a + ", " + b;
                found.put("minutes" + name, x.minutes());
                found.put("ahead" + name, x.parade(0));
                Scenes.flat(x, 80);
                found.put("wrong" + name, x.wrong());
            }
        }
    }

    /** The least number for which it is so, where it is so for all greater ones; one too many if for none. */
    private static int least(int from, int to, IntPredicate isSo) {
        int low = from;
        int high = to + 1;
        while (low < high) {
            int middle = (low + high) / 2;
            if (isSo.test(middle)) {
                high = middle;
            } else {
                low = middle + 1;
            }
        }
        return low;
    }
}
