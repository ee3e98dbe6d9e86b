import java.util.Map;
import java.util.function.Supplier;
import java.util.function.ToIntBiFunction;

/**
 * Each range of the document: its least and its greatest value are taken and are what
 * the river then has; one less and one more are refused, and it has what it had.
 */
public final class RangesTest {
    private static final int NONE = -1;
    private static final Supplier<TallShips> ROOM = Scenes::some;

    private static final Map<String, Integer> BEFORE = Reading.of(ROOM);

    public static void main(String[] args) {
        sceneIsRead();
        tideLevels();
        tidePlaces();
        settings();
        settingNumbers();
        tugHours();
        tugNumbers();
        shipLength();
        shipDraught();
        shipHeight();
        shipFame();
        shipNeeds();
        shipArrives();
        shipStop();
        sevenShips();
        quayLength();
        quayDepth();
        quayAbove();
        quayCrowd();
        quayDeck();
        fourQuays();
        foulShips();
        foulEitherWay();
        arrivesHours();
        arrivesShips();
        countWhats();
        firstArguments();
        mayArguments();
        putArguments();
        atShips();
        leftQuays();
        inShips();
        paradePlaces();
        openArguments();
        Due.end("ranges");
    }

    /** The call with one value on a new river: what it answers. */
    private static int answer(ToIntBiFunction<TallShips, Integer> call, int v) {
        return call.applyAsInt(ROOM.get(), v);
    }

    private static Map<String, Integer> readAfter(ToIntBiFunction<TallShips, Integer> call, int v) {
        return Reading.of(() -> {
            TallShips x = ROOM.get();
            call.applyAsInt(x, v);
            return x;
        });
    }

    /** Beyond the range the call answers as refused and nothing changes. */
    private static void refused(String what, int least, int most, int due, ToIntBiFunction<TallShips, Integer> call) {
        for (int v : new int[] {least - 1, most + 1, Integer.MIN_VALUE, Integer.MAX_VALUE}) {
            Due.same(what + " " + v + " refused", answer(call, v), due);
            Due.same(what + " " + v + " changes nothing", readAfter(call, v), BEFORE);
        }
    }

    /** At both ends of the range the call answers as due and the reading of that name becomes as due. */
    private static void taken(String what, int v, int due, String name, int read,
            ToIntBiFunction<TallShips, Integer> call) {
        Due.same(what + " " + v, answer(call, v), due);
        Due.same(what + " " + v + ": " + name, readAfter(call, v).get(name), read);
    }

    /** What the other tests rely on: that a reading tells what the river was made of. */
    private static void sceneIsRead() {
        Map<String, Integer> full = Reading.of(Scenes::full);
        String[] names = {"length", "draught", "height", "fame", "needs", "arrives", "stop"};
        for (int ship = 0; ship < 7; ship++) {
            for (int i = 0; i < 7; i++) {
                if (i != 3 && i != 6) {
                    String name = names[i] + " of ship " + ship;
                    Due.same(name, full.get(name), Scenes.SHIPS[ship][i]);
                }
            }
        }
        for (int quay = 0; quay < 4; quay++) {
            int[] of = Scenes.QUAYS[quay];
            Due.same("length of quay", full.get("length of quay " + quay), of[0]);
            for (int ship = 0; ship < 7; ship++) {
                berthIsRead(full, ship, quay);
            }
        }
        for (int place = 0; place < 12; place++) {
            Due.same("level", full.get("level " + place), Scenes.LEVELS[place]);
        }
        for (int what = 0; what < 5; what++) {
            Due.same("setting", full.get("setting " + what), Scenes.SETTINGS[what]);
        }
        for (int a = 0; a < 7; a++) {
            for (int b = a + 1; b < 7; b++) {
                pairIsRead(full, a, b);
            }
        }
        tugsAreRead(full);
        Due.hours("plan of the full river is kept", Scenes.full(), 5, 0, 30, 60, 61, 2, NONE);
        Due.hours("plan of the river with room is kept", Scenes.some(), 5, 0, 30);
    }

    private static void berthIsRead(Map<String, Integer> full, int ship, int quay) {
        String name = " of ship " + ship + " at quay " + quay;
        int[] of = Scenes.QUAYS[quay];
        Due.same("show" + name, full.get("show" + name), Scenes.SHIPS[ship][3] * of[3]);
        Due.same("below" + name, full.get("below the bridge" + name), of[2] == 1 ? NONE : 0);
        Due.same("gangway, low" + name, full.get("gangway at level 0" + name), Math.abs(of[4] - 30));
        Due.same("gangway, high" + name, full.get("gangway at level 80" + name), Math.abs(of[4] - 110));
        int level = Math.max(0, Scenes.SHIPS[ship][1] + 20 - of[1]);
        Due.same("afloat" + name, full.get("afloat from level" + name), level);
    }

    private static void pairIsRead(Map<String, Integer> full, int a, int b) {
        String name = " of ships " + a + ", " + b;
        int[] first = Scenes.SHIPS[a];
        int[] second = Scenes.SHIPS[b];
        Due.same("minutes" + name, full.get("minutes" + name), Math.max(first[6], second[6]));
        Due.same("ahead" + name, full.get("ahead" + name), second[3] > first[3] ? b : a);
        boolean fouls = a == 0 && b == 2 || a == 1 && b == 6 || a == 4 && b == 5;
        boolean tooLong = first[0] + second[0] + 12 > 1500;
        Due.same("wrong" + name, full.get("wrong" + name), fouls ? 20 + a : tooLong ? 30 : 0);
    }

    private static void tugsAreRead(Map<String, Integer> full) {
        for (int ship = 0; ship < 7; ship++) {
            for (int hour = 0; hour < 120; hour++) {
                int wait = 0;
                while (hour + wait < 120 && tugsOfScene(hour + wait) < Scenes.SHIPS[ship][4]) {
                    wait++;
                }
                String name = "wait of ship " + ship + " from " + hour;
                Due.same(name, full.get(name), hour + wait == 120 ? NONE : wait);
            }
        }
    }

    private static int tugsOfScene(int hour) {
        if (hour >= 10 && hour <= 20) {
            return 1;
        }
        if (hour >= 30 && hour <= 40) {
            return 3;
        }
        return hour >= 50 && hour <= 55 ? 0 : 2;
    }

    /** "TIDE: twelve levels 0 .. 80" */
    private static void tideLevels() {
        for (int place : new int[] {0, 5, 11}) {
            ToIntBiFunction<TallShips, Integer> call = (x, v) -> x.tide(place, v) ? 1 : 0;
            taken("level", 0, 1, "level " + place, 0, call);
            taken("level", 80, 1, "level " + place, 80, call);
            refused("level", 0, 80, 0, call);
        }
    }

    /** "The level at a place (0 .. 11)" */
    private static void tidePlaces() {
        ToIntBiFunction<TallShips, Integer> call = (x, v) -> x.tide(v, 77) ? 1 : 0;
        for (int place = 0; place < 12; place++) {
            taken("place", place, 1, "level " + place, 77, call);
            for (int other = 0; other < 12; other++) {
                int due = other == place ? 77 : Scenes.LEVELS[other];
                Due.same("place " + place, readAfter(call, place).get("level " + other), due);
            }
        }
        refused("place", 0, 11, 0, call);
    }

    /** "BAR (depth, 0 .. 200 ..), BRIDGE (height, 0 .. 900 ..), KEEL (0 .. 20 ..)", "GAP (0 .. 100 ..)", "SLOPE (0 .. 100 ..)" */
    private static void settings() {
        for (int what = 0; what < 5; what++) {
            int which = what;
            int most = Scenes.MOST_SETTINGS[what];
            ToIntBiFunction<TallShips, Integer> call = (x, v) -> x.set(which, v);
            taken("setting " + what, 0, Scenes.SETTINGS[what], "setting " + what, 0, call);
            taken("setting " + what, most, Scenes.SETTINGS[what], "setting " + what, most, call);
            refused("setting " + what, 0, most, NONE, call);
        }
    }

    /** "BAR (what 0), BRIDGE (1), KEEL (2), GAP (3), SLOPE (4)" */
    private static void settingNumbers() {
        ToIntBiFunction<TallShips, Integer> call = (x, v) -> x.set(v, 1);
        for (int what = 0; what < 5; what++) {
            taken("what", what, Scenes.SETTINGS[what], "setting " + what, 1, call);
            for (int other = 0; other < 5; other++) {
                int due = other == what ? 1 : Scenes.SETTINGS[other];
                Due.same("what " + what, readAfter(call, what).get("setting " + other), due);
            }
        }
        refused("what", 0, 4, NONE, call);
    }

    /** "TUGS at HOURS from one to another one (0 .. 119)" */
    private static void tugHours() {
        ToIntBiFunction<TallShips, Integer> from = (x, v) -> x.tugs(v, 119, 0) ? 1 : 0;
        taken("tugs from", 0, 1, "wait of ship 0 from 0", NONE, from);
        taken("tugs from", 119, 1, "wait of ship 0 from 119", NONE, from);
        taken("tugs from", 119, 1, "wait of ship 0 from 118", 0, from);
        refused("tugs from", 0, 119, 0, from);
        ToIntBiFunction<TallShips, Integer> to = (x, v) -> x.tugs(0, v, 0) ? 1 : 0;
        taken("tugs to", 0, 1, "wait of ship 0 from 0", 1, to);
        taken("tugs to", 119, 1, "wait of ship 0 from 0", NONE, to);
        refused("tugs to", 0, 119, 0, to);
        ToIntBiFunction<TallShips, Integer> one = (x, v) -> x.tugs(v, v, 0) ? 1 : 0;
        taken("tugs at one hour", 60, 1, "wait of ship 0 from 59", 0, one);
        taken("tugs at one hour", 60, 1, "wait of ship 0 from 60", 1, one);
        taken("tugs at one hour", 60, 1, "wait of ship 0 from 61", 0, one);
        ToIntBiFunction<TallShips, Integer> backwards = (x, v) -> x.tugs(60, v, 0) ? 1 : 0;
        Due.same("tugs backwards", answer(backwards, 59), 0);
        Due.same("tugs backwards changes nothing", readAfter(backwards, 59), BEFORE);
    }

    /** "become v (0 .. 9)" */
    private static void tugNumbers() {
        ToIntBiFunction<TallShips, Integer> call = (x, v) -> x.tugs(0, 119, v) ? 1 : 0;
        taken("tugs", 0, 1, "wait of ship 0 from 0", NONE, call);
        taken("tugs", 1, 1, "wait of ship 1 from 0", NONE, call);
        taken("tugs", 1, 1, "wait of ship 0 from 0", 0, call);
        taken("tugs", 9, 1, "wait of ship 2 from 0", 0, call);
        refused("tugs", 0, 9, 0, call);
    }

    private static ToIntBiFunction<TallShips, Integer> shipWith(int i) {
        return (x, v) -> {
            int[] ship = Scenes.SHIPS[0].clone();
            ship[i] = v;
            return Scenes.ship(x, ship);
        };
    }

    /** "LENGTH 1 .. 1200" */
    private static void shipLength() {
        taken("ship's length", 1, 3, "length of ship 3", 1, shipWith(0));
        taken("ship's length", 1200, 3, "length of ship 3", 1200, shipWith(0));
        refused("ship's length", 1, 1200, NONE, shipWith(0));
    }

    /** "DRAUGHT 1 .. 120" */
    private static void shipDraught() {
        taken("draught", 1, 3, "draught of ship 3", 1, shipWith(1));
        taken("draught", 120, 3, "draught of ship 3", 120, shipWith(1));
        refused("draught", 1, 120, NONE, shipWith(1));
    }

    /** "HEIGHT 1 .. 700" */
    private static void shipHeight() {
        taken("height", 1, 3, "height of ship 3", 1, shipWith(2));
        taken("height", 700, 3, "height of ship 3", 700, shipWith(2));
        refused("height", 1, 700, NONE, shipWith(2));
    }

    /** "FAME 0 .. 100" */
    private static void shipFame() {
        taken("fame", 0, 3, "show of ship 3 at quay 1", 0, shipWith(3));
        taken("fame", 100, 3, "show of ship 3 at quay 1", 700, shipWith(3));
        refused("fame", 0, 100, NONE, shipWith(3));
    }

    /** "TUGS 0 .. 3 that it needs" */
    private static void shipNeeds() {
        taken("needs", 0, 3, "needs of ship 3", 0, shipWith(4));
        taken("needs", 3, 3, "needs of ship 3", 3, shipWith(4));
        refused("needs", 0, 3, NONE, shipWith(4));
    }

    /** "ARRIVES at an HOUR", "HOURS 0 .. 119" */
    private static void shipArrives() {
        taken("ship arrives", 0, 3, "arrives of ship 3", 0, shipWith(5));
        taken("ship arrives", 119, 3, "arrives of ship 3", 119, shipWith(5));
        refused("ship arrives", 0, 119, NONE, shipWith(5));
    }

    /** "STOP 1 .. 60 (minutes)" */
    private static void shipStop() {
        taken("stop", 1, 3, "minutes of ships 3, 4", 1, shipWith(6));
        taken("stop", 60, 3, "minutes of ships 3, 4", 60, shipWith(6));
        refused("stop", 1, 60, NONE, shipWith(6));
    }

    /** "SHIPS 0 .. (at most 7)" */
    private static void sevenShips() {
        TallShips x = new TallShips();
        for (int number = 0; number < 7; number++) {
            Due.same("ship's number", Scenes.ship(x, Scenes.SHIPS[number]), number);
            Due.same("ships", x.count(0), number + 1);
        }
        Due.same("ship 7", Scenes.ship(x, Scenes.SHIPS[0]), NONE);
        Due.same("seven ships", x.count(0), 7);
        Due.same("at(7)", Due.at(x, 7), Due.THROWN);
        for (int number = 0; number < 7; number++) {
            Due.same("arrives as before", x.arrives(number, 0), Scenes.SHIPS[number][5]);
        }
    }

    private static ToIntBiFunction<TallShips, Integer> quayWith(int i) {
        return (x, v) -> {
            int[] quay = Scenes.QUAYS[0].clone();
            quay[i] = v;
            return Scenes.quay(x, quay);
        };
    }

    /** "LENGTH 1 .. 4000" */
    private static void quayLength() {
        taken("quay's length", 1, 2, "left 2", 1, quayWith(0));
        taken("quay's length", 4000, 2, "left 2", 4000, quayWith(0));
        refused("quay's length", 1, 4000, NONE, quayWith(0));
    }

    /** "DEPTH 1 .. 200 (at level 0)": draught and keel are at most 140, so beyond that no more shows. */
    private static void quayDepth() {
        taken("depth", 1, 2, "afloat from level of ship 0 at quay 2", 49, quayWith(1));
        taken("depth", 200, 2, "afloat from level of ship 0 at quay 2", 0, quayWith(1));
        refused("depth", 1, 200, NONE, quayWith(1));
        TallShips x = new TallShips();
        x.quay(100, 1, false, 0, 0);
        x.quay(100, 200, false, 0, 0);
        x.ship(100, 120, 1, 0, 0, 0, 1);
        x.ship(100, 1, 1, 0, 0, 0, 1);
        x.set(0, 200);
        x.set(2, 20);
        Due.same("depth 1, most draught and keel", x.may(0, 0), 1);
        Due.same("depth 200, most draught and keel", x.may(0, 1), 0);
        x.set(2, 0);
        Due.same("depth 1, least draught and keel", x.may(1, 0), 0);
    }

    /** "ABOVE the BRIDGE or not" */
    private static void quayAbove() {
        taken("above", 0, 2, "below the bridge of ship 0 at quay 2", 0, quayWith(2));
        taken("above", 1, 2, "below the bridge of ship 0 at quay 2", NONE, quayWith(2));
    }

    /** "CROWD 0 .. 10" */
    private static void quayCrowd() {
        taken("crowd", 0, 2, "show of ship 0 at quay 2", 0, quayWith(3));
        taken("crowd", 10, 2, "show of ship 0 at quay 2", 500, quayWith(3));
        refused("crowd", 0, 10, NONE, quayWith(3));
    }

    /** "DECK (height over level 0, 0 .. 120)" */
    private static void quayDeck() {
        taken("deck", 0, 2, "gangway at level 0 of ship 0 at quay 2", 30, quayWith(4));
        taken("deck", 120, 2, "gangway at level 0 of ship 0 at quay 2", 90, quayWith(4));
        taken("deck", 120, 2, "gangway at level 80 of ship 0 at quay 2", 10, quayWith(4));
        refused("deck", 0, 120, NONE, quayWith(4));
    }

    /** "QUAYS 0 .. (at most 4)" */
    private static void fourQuays() {
        TallShips x = new TallShips();
        for (int number = 0; number < 4; number++) {
            Due.same("quay's number", Scenes.quay(x, Scenes.QUAYS[number]), number);
            Due.same("quays", x.count(1), number + 1);
        }
        Due.same("quay 4", Scenes.quay(x, Scenes.QUAYS[0]), NONE);
        Due.same("four quays", x.count(1), 4);
        Due.same("left(4)", x.left(4), -9999);
        for (int number = 0; number < 4; number++) {
            Due.same("length as before", x.left(number), Scenes.QUAYS[number][0]);
        }
    }

    /** "Two SHIPS FOUL, or not: true. Refused: others, one alone." */
    private static void foulShips() {
        ToIntBiFunction<TallShips, Integer> first = (x, v) -> x.foul(v, 1, true) ? 1 : 0;
        taken("foul", 0, 1, "wrong of ships 0, 1", 20, first);
        taken("foul", 2, 1, "wrong of ships 1, 2", 21, first);
        refused("foul", 0, 2, 0, first);
        ToIntBiFunction<TallShips, Integer> second = (x, v) -> x.foul(1, v, true) ? 1 : 0;
        taken("foul 1 and", 0, 1, "wrong of ships 0, 1", 20, second);
        taken("foul 1 and", 2, 1, "wrong of ships 1, 2", 21, second);
        refused("foul 1 and", 0, 2, 0, second);
        ToIntBiFunction<TallShips, Integer> not = (x, v) -> x.foul(0, v, false) ? 1 : 0;
        taken("not foul 0 and", 2, 1, "wrong of ships 0, 2", 0, not);
        taken("not foul 0 and", 1, 1, "wrong of ships 0, 2", 20, not);
        ToIntBiFunction<TallShips, Integer> alone = (x, v) -> x.foul(v, v, true) ? 1 : 0;
        for (int ship = 0; ship < 3; ship++) {
            Due.same("foul one alone", answer(alone, ship), 0);
            Due.same("foul one alone changes nothing", readAfter(alone, ship), BEFORE);
        }
    }

    /** "Two SHIPS FOUL, or not": each two, whichever is named first. */
    private static void foulEitherWay() {
        for (int a = 0; a < 7; a++) {
            for (int b = 0; b < 7; b++) {
                if (a != b) {
                    TallShips x = Scenes.easy(7);
                    x.put(a, 0);
                    x.put(b, 0);
                    int due = 20 + Math.min(a, b);
                    Due.same("foul", x.foul(a, b, true), true);
                    Due.same("foul " + a + ", " + b, x.wrong(), due);
                    Due.same("not", x.foul(a, b, false), true);
                    Due.same("not " + a + ", " + b, x.wrong(), 0);
                    Due.same("not again", x.foul(a, b, false), true);
                    Due.same("not again " + a + ", " + b, x.wrong(), 0);
                    Due.same("foul anew", x.foul(a, b, true), true);
                    Due.same("foul anew, the other way", x.foul(b, a, true), true);
                    Due.same("foul anew " + a + ", " + b, x.wrong(), due);
                    Due.same("not, the other way", x.foul(b, a, false), true);
                    Due.same("not, the other way " + a + ", " + b, x.wrong(), 0);
                    Due.same("both at best", x.best(), 7);
                }
            }
        }
    }

    /** "ARRIVES of a SHIP becomes an HOUR: what it was." */
    private static void arrivesHours() {
        ToIntBiFunction<TallShips, Integer> call = (x, v) -> x.arrives(2, v);
        taken("arrives", 0, 25, "arrives of ship 2", 0, call);
        taken("arrives", 119, 25, "arrives of ship 2", 119, call);
        refused("arrives", 0, 119, NONE, call);
    }

    private static void arrivesShips() {
        ToIntBiFunction<TallShips, Integer> call = (x, v) -> x.arrives(v, 77);
        taken("arrives of", 0, 5, "arrives of ship 0", 77, call);
        taken("arrives of", 0, 5, "arrives of ship 2", 25, call);
        taken("arrives of", 2, 25, "arrives of ship 2", 77, call);
        taken("arrives of", 2, 25, "arrives of ship 0", 5, call);
        refused("arrives of", 0, 2, NONE, call);
    }

    /** "What 0: SHIPS, .. 5: the greatest. NONE for another what." */
    private static void countWhats() {
        int[] due = {3, 2, 2, 50 * 3 + 70 * 3, 8, 33};
        for (int what = 0; what <= 5; what++) {
            Due.same("count " + what, ROOM.get().count(what), due[what]);
        }
        refused("count", 0, 5, NONE, TallShips::count);
    }

    /** "The first HOUR from one on at which a SHIP can CROSS (how 0), PASS (1). NONE: none such" */
    private static void firstArguments() {
        TallShips x = Scenes.easy(3);
        for (int ship = 0; ship < 3; ship++) {
            for (int how = 0; how < 2; how++) {
                Due.same("first from 0", x.first(ship, 0, how), 0);
                Due.same("first from 119", x.first(ship, 119, how), 119);
            }
        }
        refused("first of", 0, 2, NONE, (y, v) -> y.first(v, 0, 0));
        refused("first from", 0, 119, NONE, (y, v) -> y.first(0, v, 0));
        refused("first how", 0, 1, NONE, (y, v) -> y.first(0, 0, v));
    }

    /** "Whether a SHIP may lie at a QUAY: 0; .. NONE: none such." */
    private static void mayArguments() {
        TallShips x = ROOM.get();
        Due.same("may, first ship and quay", x.may(0, 0), 0);
        Due.same("may, last ship and quay", x.may(2, 1), 0);
        refused("may", 0, 2, NONE, (y, v) -> y.may(v, 0));
        refused("may at", 0, 1, NONE, (y, v) -> y.may(0, v));
    }

    /** "A SHIP has a QUAY, or none (NONE): true. Refused: none such." */
    private static void putArguments() {
        ToIntBiFunction<TallShips, Integer> quay = (x, v) -> x.put(0, v) ? 1 : 0;
        taken("put at", NONE, 1, "at 0", NONE, quay);
        taken("put at", 0, 1, "at 0", 0, quay);
        taken("put at", 1, 1, "at 0", 1, quay);
        refused("put at", NONE, 1, 0, quay);
        ToIntBiFunction<TallShips, Integer> ship = (x, v) -> x.put(v, 1) ? 1 : 0;
        taken("put", 0, 1, "at 0", 1, ship);
        taken("put", 2, 1, "at 2", 1, ship);
        refused("put", 0, 2, 0, ship);
    }

    /** "The QUAY of a SHIP (NONE). NoSuchElementException: no such SHIP." */
    private static void atShips() {
        Due.berths("at", ROOM.get(), 0, NONE, 0);
        refused("at", 0, 2, Due.THROWN, Due::at);
    }

    /** "-9999: no such QUAY." */
    private static void leftQuays() {
        Due.same("left, first quay", ROOM.get().left(0), 1500 - 300 - 12 - 400);
        Due.same("left, last quay", ROOM.get().left(1), 1200);
        refused("left", 0, 1, -9999, TallShips::left);
    }

    /** "NONE if it has none there, or for none such." */
    private static void inShips() {
        Due.hours("in", ROOM.get(), 5, 0, 30);
        refused("in", 0, 2, NONE, TallShips::in);
    }

    /** "The i-th SHIP of the PARADE; NONE: none such." */
    private static void paradePlaces() {
        Due.same("parade, first", ROOM.get().parade(0), 2);
        Due.same("parade, last", ROOM.get().parade(1), 0);
        refused("parade", 0, 1, NONE, TallShips::parade);
    }

    /** "In how many HOURS from one to another one .. NONE: none such, it has no berth." */
    private static void openArguments() {
        TallShips x = Scenes.moored(3);
        for (int ship = 0; ship < 3; ship++) {
            Due.same("open all hours", x.open(ship, 0, 119), 120);
            Due.same("open first hour", x.open(ship, 0, 0), 1);
            Due.same("open last hour", x.open(ship, 119, 119), 1);
        }
        Due.same("open backwards", x.open(0, 60, 59), NONE);
        x.put(1, NONE);
        Due.same("open without berth", x.open(1, 0, 119), NONE);
        refused("open of", 0, 2, NONE, (y, v) -> y.open(v, 0, 119));
        refused("open from", 0, 119, NONE, (y, v) -> y.open(0, v, 119));
        refused("open to", 0, 119, NONE, (y, v) -> y.open(0, 0, v));
    }
}
