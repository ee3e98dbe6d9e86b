import java.util.Map;
import java.util.function.Consumer;
import java.util.function.Supplier;

/**
 * A call that is not refused changes what its promise says and nothing else: all that can
 * be known of the river is read before and behind it. The readings that may become others
 * are told by patterns of their names; one of the first pattern must have become another.
 */
public final class ChangesTest {
    private static final int NONE = -1;
    /** What depends on where ships are. */
    private static final String BY_BERTHS = "count [23]|parade .|left .|minutes|wrong";

    public static void main(String[] args) {
        tide();
        set();
        tugs();
        ship();
        quay();
        foul();
        arrives();
        put();
        best();
        mend();
        plan();
        Due.end("changes");
    }

    private static void only(String what, Supplier<TallShips> maker, Consumer<TallShips> call,
            String foremost, String others) {
        Map<String, Integer> before = Reading.of(maker);
        Map<String, Integer> after = Reading.of(() -> {
            TallShips x = maker.get();
            call.accept(x);
            return x;
        });
        int changed = 0;
        for (Map.Entry<String, Integer> each : before.entrySet()) {
            String name = each.getKey();
            int now = after.getOrDefault(name, Integer.MIN_VALUE);
            if (name.matches(foremost)) {
                changed += now == each.getValue() ? 0 : 1;
            } else if (!name.matches(others)) {
                Due.same(what + " leaves " + name, now, each.getValue());
            }
        }
        Due.same(what + " changes " + foremost, changed > 0, true);
    }

    // 2: "The level at a place (0 .. 11) of the TIDE"
    private static void tide() {
        for (int place = 0; place < 12; place++) {
            int which = place;
            only("tide up", Scenes::full, x -> x.tide(which, 80), "level " + place, "count [45]|wrong");
            only("tide down", Scenes::full, x -> x.tide(which, 0), "level " + place, "count [45]|wrong");
        }
    }

    // 3: "BAR (what 0), BRIDGE (1), KEEL (2), GAP (3), SLOPE (4) becomes v"
    private static void set() {
        only("bar", Scenes::full, x -> x.set(0, 0), "setting 0", "wrong");
        only("bridge", Scenes::full, x -> x.set(1, 0), "setting 1", "wrong");
        only("keel", Scenes::full, x -> x.set(2, 20), "setting 2", "wrong");
        only("gap", Scenes::full, x -> x.set(3, 100), "setting 3", "left .|wrong|wrong of ships .*");
        only("slope", Scenes::full, x -> x.set(4, 0), "setting 4", "");
    }

    // 4: "TUGS at HOURS from one to another one (0 .. 119) become v": what is waited for from later hours on stays
    private static void tugs() {
        String untilThirty = "wait of ship . from ([0-9]|[12][0-9]|30)";
        only("fewer tugs", Scenes::full, x -> x.tugs(25, 30, 0), untilThirty, "");
        only("more tugs", Scenes::full, x -> x.tugs(12, 30, 9), untilThirty, "");
    }

    // 5: "A SHIP: its number." The ships, berths and plan that there were stay.
    private static void ship() {
        String itsOwn = ".*ship 3.*|.*ships 3.*|.*ships ., 3|.*ship [456].*|.*ships [456].*|.*ships ., [456]";
        only("ship", Scenes::some, x -> x.ship(77, 7, 7, 100, 3, 7, 60), "count 0", "at 3|" + itsOwn);
        only("first ship", Scenes::empty, x -> x.ship(77, 7, 7, 100, 3, 7, 60), "count 0", "at 0|.*ship.*");
    }

    // 6: "A QUAY: its number."
    private static void quay() {
        only("quay", Scenes::some, x -> x.quay(77, 7, true, 10, 120), "count 1", "left 2|.*quay 2");
    }

    // 7: "Two SHIPS FOUL, or not"
    private static void foul() {
        for (int a = 0; a < 7; a++) {
            for (int b = a + 1; b < 7; b++) {
                int one = a;
                int other = b;
                boolean fouls = a == 0 && b == 2 || a == 1 && b == 6 || a == 4 && b == 5;
                only("foul", Scenes::full, x -> x.foul(one, other, !fouls), "wrong of ships " + a + ", " + b, "wrong");
                only("foul", Scenes::full, x -> x.foul(other, one, !fouls), "wrong of ships " + a + ", " + b, "wrong");
            }
        }
    }

    // 8: "ARRIVES of a SHIP becomes an HOUR": the plan that is kept stays
    private static void arrives() {
        for (int ship = 0; ship < 7; ship++) {
            int number = ship;
            only("arrives", Scenes::full, x -> x.arrives(number, 119), "arrives of ship " + ship, "wrong");
        }
    }

    // 12: "A SHIP has a QUAY, or none (NONE)": no other ship is moved, and the plan that is kept stays
    private static void put() {
        for (int ship = 0; ship < 7; ship++) {
            int number = ship;
            int elsewhere = Scenes.full().at(ship) == 2 ? 1 : 2;
            only("put", Scenes::full, x -> x.put(number, elsewhere), "at " + ship, BY_BERTHS);
            if (Scenes.full().at(ship) != NONE) {
                only("put away", Scenes::full, x -> x.put(number, NONE), "at " + ship, BY_BERTHS);
            }
        }
    }

    // 15: "THE BERTHS are the BEST": the plan that is kept stays
    private static void best() {
        only("best", Scenes::full, TallShips::best, "at .", BY_BERTHS);
        only("best", Scenes::some, TallShips::best, "at .", BY_BERTHS);
    }

    // 16: "THE BERTHS are the NEAREST"
    private static void mend() {
        only("mend", Scenes::full, TallShips::mend, "at .", BY_BERTHS);
        only("mend", Scenes::some, TallShips::mend, "at .", BY_BERTHS);
    }

    // 18: "it is kept": no ship is moved by it
    private static void plan() {
        only("plan", Scenes::full, TallShips::plan, "in .", "");
        only("plan", Scenes::some, TallShips::plan, "in .", "");
    }
}
