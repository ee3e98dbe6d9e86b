import java.util.ArrayList;
import java.util.List;
import java.util.Map;
import java.util.function.Supplier;
import java.util.function.ToIntFunction;

/**
 * "Refused calls answer NONE, or false, and change nothing.": each call that may be
 * refused, by each of its arguments, in an empty river, one with room and a full one;
 * what can be known of the river is read in full behind each. at throws, left answers -9999.
 */
public final class RefusalsTest {
    private static final int NONE = -1;
    private static final int NO_QUAY = -9999;
    private static final int FALSE = 0;
    private static final int MIN = Integer.MIN_VALUE;
    private static final int MAX = Integer.MAX_VALUE;

    private record Refusal(String name, ToIntFunction<TallShips> call, int due) {
    }

    public static void main(String[] args) {
        refuseAll("empty river", Scenes::empty, 0, 0);
        refuseAll("river with room", Scenes::some, 3, 2);
        refuseAll("full river", Scenes::full, 7, 4);
        refuseMore("full river", Scenes::full);
        planThatIsNone();
        questionsChangeNothing();
        Due.end("refusals");
    }

    private static void refuseAll(String scene, Supplier<TallShips> maker, int ships, int quays) {
        List<Refusal> all = new ArrayList<>();
        tide(all);
        set(all);
        tugs(all);
        ship(all);
        quay(all);
        foul(all, ships);
        arrives(all, ships);
        count(all);
        first(all, ships);
        may(all, ships, quays);
        put(all, ships, quays);
        at(all, ships);
        left(all, quays);
        in(all, ships);
        parade(all, maker.get().count(2));
        open(all, maker, ships);
        check(scene, maker, all);
    }

    private static void check(String scene, Supplier<TallShips> maker, List<Refusal> all) {
        Map<String, Integer> before = Reading.of(maker);
        for (Refusal each : all) {
            String what = scene + ": " + each.name;
            Due.same(what, each.call.applyAsInt(maker.get()), each.due);
            Due.same(what + " changes nothing", Reading.of(() -> {
                TallShips x = maker.get();
                each.call.applyAsInt(x);
                return x;
            }), before);
        }
    }

    private static void add(List<Refusal> all, String name, int due, ToIntFunction<TallShips> call) {
        all.add(new Refusal(name, call, due));
    }

    private static void addFalse(List<Refusal> all, String name, java.util.function.Predicate<TallShips> call) {
        all.add(new Refusal(name, x -> call.test(x) ? 1 : 0, FALSE));
    }

    /** The nearest wrong numbers on both sides of a range, and the farthest ones. */
    private static int[] beyond(int least, int most) {
        return new int[] {least - 1, most + 1, MIN, MAX};
    }

    // 2
    private static void tide(List<Refusal> all) {
        for (int place : beyond(0, 11)) {
            addFalse(all, "tide place " + place, x -> x.tide(place, 77));
        }
        for (int level : beyond(0, 80)) {
            addFalse(all, "tide level " + level, x -> x.tide(0, level));
            addFalse(all, "tide level at the last place " + level, x -> x.tide(11, level));
        }
    }

    // 3
    private static void set(List<Refusal> all) {
        for (int what : beyond(0, 4)) {
            add(all, "set what " + what, NONE, x -> x.set(what, 3));
        }
        for (int what = 0; what < 5; what++) {
            int which = what;
            for (int v : beyond(0, Scenes.MOST_SETTINGS[what])) {
                add(all, "set " + what + " to " + v, NONE, x -> x.set(which, v));
            }
        }
    }

    // 4
    private static void tugs(List<Refusal> all) {
        for (int hour : beyond(0, 119)) {
            addFalse(all, "tugs from " + hour, x -> x.tugs(hour, 60, 3));
            addFalse(all, "tugs to " + hour, x -> x.tugs(0, hour, 3));
            addFalse(all, "tugs from and to " + hour, x -> x.tugs(hour, hour, 3));
        }
        for (int v : beyond(0, 9)) {
            addFalse(all, "tugs become " + v, x -> x.tugs(0, 119, v));
        }
        addFalse(all, "tugs backwards by one", x -> x.tugs(5, 4, 3));
        addFalse(all, "tugs backwards by all", x -> x.tugs(119, 0, 3));
    }

    // 5
    private static void ship(List<Refusal> all) {
        for (int i = 0; i < 7; i++) {
            for (int v : beyond(Scenes.LEAST_SHIP[i], Scenes.MOST_SHIP[i])) {
                int[] ship = Scenes.SHIPS[0].clone();
                ship[i] = v;
                add(all, "ship with " + v + " as its " + i, NONE, x -> Scenes.ship(x, ship));
            }
        }
    }

    // 6
    private static void quay(List<Refusal> all) {
        int[] least = {1, 1, 0, 0, 0};
        int[] most = {4000, 200, 1, 10, 120};
        for (int i = 0; i < 5; i++) {
            for (int v : beyond(least[i], most[i])) {
                int[] quay = Scenes.QUAYS[0].clone();
                quay[i] = v;
                if (i != 2) {
                    add(all, "quay with " + v + " as its " + i, NONE, x -> Scenes.quay(x, quay));
                }
            }
        }
    }

    // 7
    private static void foul(List<Refusal> all, int ships) {
        for (int bad : beyond(0, ships - 1)) {
            for (boolean is : new boolean[] {true, false}) {
                addFalse(all, "foul " + bad + ", 0, " + is, x -> x.foul(bad, 0, is));
                addFalse(all, "foul 0, " + bad + ", " + is, x -> x.foul(0, bad, is));
                addFalse(all, "foul " + bad + " alone, " + is, x -> x.foul(bad, bad, is));
            }
        }
        for (int ship = 0; ship < ships; ship++) {
            int alone = ship;
            addFalse(all, "foul " + ship + " alone", x -> x.foul(alone, alone, true));
            addFalse(all, "foul not " + ship + " alone", x -> x.foul(alone, alone, false));
        }
    }

    // 8
    private static void arrives(List<Refusal> all, int ships) {
        for (int bad : beyond(0, ships - 1)) {
            add(all, "arrives of ship " + bad, NONE, x -> x.arrives(bad, 7));
        }
        for (int hour : beyond(0, 119)) {
            add(all, "arrives at " + hour, NONE, x -> x.arrives(0, hour));
        }
    }

    // 9
    private static void count(List<Refusal> all) {
        for (int what : beyond(0, 5)) {
            add(all, "count " + what, NONE, x -> x.count(what));
        }
    }

    // 10
    private static void first(List<Refusal> all, int ships) {
        for (int bad : beyond(0, ships - 1)) {
            add(all, "first of ship " + bad, NONE, x -> x.first(bad, 0, 0));
        }
        for (int hour : beyond(0, 119)) {
            add(all, "first from " + hour, NONE, x -> x.first(0, hour, 0));
        }
        for (int how : beyond(0, 1)) {
            add(all, "first how " + how, NONE, x -> x.first(0, 0, how));
        }
    }

    // 11
    private static void may(List<Refusal> all, int ships, int quays) {
        for (int bad : beyond(0, ships - 1)) {
            add(all, "may ship " + bad, NONE, x -> x.may(bad, 0));
        }
        for (int bad : beyond(0, quays - 1)) {
            add(all, "may at quay " + bad, NONE, x -> x.may(0, bad));
        }
    }

    // 12: NONE is no wrong quay here
    private static void put(List<Refusal> all, int ships, int quays) {
        for (int bad : beyond(0, ships - 1)) {
            addFalse(all, "put ship " + bad, x -> x.put(bad, 0));
            addFalse(all, "put ship " + bad + " at none", x -> x.put(bad, NONE));
        }
        for (int bad : beyond(NONE, quays - 1)) {
            addFalse(all, "put at quay " + bad, x -> x.put(0, bad));
        }
    }

    // 13
    private static void at(List<Refusal> all, int ships) {
        for (int bad : beyond(0, ships - 1)) {
            add(all, "at " + bad, Due.THROWN, x -> Due.at(x, bad));
        }
    }

    // 17
    private static void left(List<Refusal> all, int quays) {
        for (int bad : beyond(0, quays - 1)) {
            add(all, "left " + bad, NO_QUAY, x -> x.left(bad));
        }
    }

    // 19
    private static void in(List<Refusal> all, int ships) {
        for (int bad : beyond(0, ships - 1)) {
            add(all, "in " + bad, NONE, x -> x.in(bad));
        }
    }

    // 20
    private static void parade(List<Refusal> all, int berthed) {
        for (int bad : beyond(0, berthed - 1)) {
            add(all, "parade " + bad, NONE, x -> x.parade(bad));
        }
    }

    // 22
    private static void open(List<Refusal> all, Supplier<TallShips> maker, int ships) {
        for (int bad : beyond(0, ships - 1)) {
            add(all, "open of ship " + bad, NONE, x -> x.open(bad, 0, 119));
        }
        for (int hour : beyond(0, 119)) {
            add(all, "open from " + hour, NONE, x -> x.open(0, hour, 60));
            add(all, "open to " + hour, NONE, x -> x.open(0, 0, hour));
            add(all, "open from and to " + hour, NONE, x -> x.open(0, hour, hour));
        }
        add(all, "open backwards by one", NONE, x -> x.open(0, 5, 4));
        add(all, "open backwards by all", NONE, x -> x.open(0, 119, 0));
        for (int ship = 0; ship < ships; ship++) {
            int idle = ship;
            if (maker.get().at(ship) == NONE) {
                add(all, "open of ship without berth " + ship, NONE, x -> x.open(idle, 0, 119));
            }
        }
    }

    /** "at most 7", "at most 4": what would be taken elsewhere is refused where there is no room for it. */
    private static void refuseMore(String scene, Supplier<TallShips> maker) {
        List<Refusal> all = new ArrayList<>();
        add(all, "an eighth ship", NONE, x -> Scenes.ship(x, Scenes.SHIPS[1]));
        add(all, "an eighth, least ship", NONE, x -> Scenes.ship(x, Scenes.LEAST_SHIP));
        add(all, "a fifth quay", NONE, x -> Scenes.quay(x, Scenes.QUAYS[1]));
        add(all, "a fifth, least quay", NONE, x -> Scenes.quay(x, 1, 1, 0, 0, 0));
        check(scene, maker, all);
    }

    /** 18: "NONE: there is none (the one that is kept stays)." */
    private static void planThatIsNone() {
        List<Refusal> all = new ArrayList<>();
        add(all, "plan", NONE, TallShips::plan);
        check("no tugs", () -> {
            TallShips x = Scenes.full();
            x.tugs(0, 119, 0);
            return x;
        }, all);
        check("no water over the bar", () -> {
            TallShips x = Scenes.some();
            x.set(0, 0);
            return x;
        }, all);
        check("no way under the bridge", () -> {
            TallShips x = Scenes.full();
            x.set(1, 0);
            return x;
        }, all);
        check("none before, either", () -> {
            TallShips x = Scenes.moored(2);
            x.arrives(0, 119);
            x.arrives(1, 119);
            return x;
        }, all);
    }

    /** No promise of these says that anything changes. */
    private static void questionsChangeNothing() {
        List<Refusal> all = new ArrayList<>();
        TallShips now = Scenes.full();
        for (int what = 0; what <= 5; what++) {
            int which = what;
            add(all, "count " + what, now.count(what), x -> x.count(which));
        }
        for (int ship = 0; ship < 7; ship++) {
            int number = ship;
            add(all, "first " + ship, now.first(ship, 3, 1), x -> x.first(number, 3, 1));
            add(all, "may " + ship, now.may(ship, 3), x -> x.may(number, 3));
            add(all, "at " + ship, now.at(ship), x -> x.at(number));
            add(all, "in " + ship, now.in(ship), x -> x.in(number));
            add(all, "parade " + ship, now.parade(ship), x -> x.parade(number));
            add(all, "open " + ship, now.open(ship, 3, 90), x -> x.open(number, 3, 90));
        }
        for (int quay = 0; quay < 4; quay++) {
            int number = quay;
            add(all, "left " + quay, now.left(quay), x -> x.left(number));
        }
        add(all, "wrong", now.wrong(), TallShips::wrong);
        add(all, "minutes", now.minutes(), TallShips::minutes);
        check("a question", Scenes::full, all);
    }
}
