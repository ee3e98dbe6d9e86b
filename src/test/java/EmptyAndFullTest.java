import java.util.Map;

/** The river without ships, without quays, without either, and with as many as there can be; and what a call leaves as it was. */
public final class EmptyAndFullTest {
    private static final int NONE = -1;

    public static void main(String[] args) {
        newObjectIsEmpty();
        emptyRiverAnswers();
        shipsWithoutQuays();
        quaysWithoutShips();
        objectsAreApart();
        laterShipIsNew();
        laterQuayIsEmpty();
        fullRiverAllGood();
        fullRiverAllAtOne();
        fullRiverNoneGood();
        fullRiverGreatestShow();
        fullRiverOneEach();
        fullRiverFoulsAll();
        fullRiverMend();
        fullRiverWrongs();
        fullRiverLeft();
        planStays();
        planOfNobody();
        planGoodOrNot();
        planAfterPlan();
        bestForgetsWhatWas();
        Due.end("empty and full");
    }

    /** Promise 1: "As told; no SHIPS, QUAYS." */
    private static void newObjectIsEmpty() {
        Map<String, Integer> read = Reading.of(Scenes::empty);
        for (int what = 0; what <= 5; what++) {
            Due.same("new count " + what, read.get("count " + what), 0);
        }
        for (int i = 0; i < 7; i++) {
            Due.same("new at " + i, read.get("at " + i), Due.THROWN);
            Due.same("new in " + i, read.get("in " + i), NONE);
            Due.same("new parade " + i, read.get("parade " + i), NONE);
        }
        for (int i = 0; i < 4; i++) {
            Due.same("new left " + i, read.get("left " + i), -9999);
        }
        for (int place = 0; place < 12; place++) {
            Due.same("new level " + place, read.get("level " + place), 0);
        }
        for (int hour = 0; hour < 120; hour++) {
            Due.same("new tugs, one", read.get("wait of ship 0 from " + hour), 0);
            Due.same("new tugs, two", read.get("wait of ship 1 from " + hour), 0);
            Due.same("new tugs, not three", read.get("wait of ship 2 from " + hour), NONE);
        }
        Due.same("new wrong", read.get("wrong"), 0);
        Due.same("new minutes", read.get("minutes"), 0);
        Due.same("no two foul", read.get("wrong of ships 0, 1"), 0);
    }

    private static void emptyRiverAnswers() {
        TallShips x = new TallShips();
        Due.same("empty best", x.best(), 0);
        Due.same("empty mend", x.mend(), 0);
        Due.same("empty plan", x.plan(), 0);
        Due.same("empty wrong", x.wrong(), 0);
        Due.same("empty minutes", x.minutes(), 0);
        Due.same("empty parade", x.parade(0), NONE);
        Due.same("empty in", x.in(0), NONE);
        Due.same("empty may", x.may(0, 0), NONE);
        Due.same("empty first", x.first(0, 0, 0), NONE);
        Due.same("empty arrives", x.arrives(0, 0), NONE);
        Due.same("empty open", x.open(0, 0, 119), NONE);
        Due.same("empty left", x.left(0), -9999);
        Due.same("empty put", x.put(0, 0), false);
        Due.same("empty put at none", x.put(0, NONE), false);
        Due.same("empty put of none", x.put(NONE, NONE), false);
        Due.same("empty foul", x.foul(0, 1, true), false);
        Due.same("empty at", Due.at(x, 0), Due.THROWN);
    }

    private static void shipsWithoutQuays() {
        TallShips x = new TallShips();
        for (int i = 0; i < 7; i++) {
            x.ship(10, 10, 10, 50, 0, 0, 60);
        }
        Due.same("no quay: best", x.best(), 0);
        Due.same("no quay: mend", x.mend(), 0);
        Due.same("no quay: plan", x.plan(), 0);
        Due.same("no quay: wrong", x.wrong(), 0);
        Due.same("no quay: minutes", x.minutes(), 0);
        Due.same("no quay: show", x.count(3), 0);
        Due.same("no quay: with a berth", x.count(2), 0);
        for (int i = 0; i < 7; i++) {
            Due.same("no quay: put", x.put(i, 0), false);
            Due.same("no quay: put at none", x.put(i, NONE), true);
            Due.same("no quay: at", x.at(i), NONE);
            Due.same("no quay: in", x.in(i), NONE);
            Due.same("no quay: may", x.may(i, 0), NONE);
            Due.same("no quay: open", x.open(i, 0, 119), NONE);
            Due.same("no quay: parade", x.parade(i), NONE);
            Due.same("no quay: first", x.first(i, 0, 0), 0);
        }
    }

    private static void quaysWithoutShips() {
        TallShips x = new TallShips();
        for (int i = 0; i < 4; i++) {
            x.quay(i + 1, 1, true, 10, 0);
        }
        Due.same("no ship: best", x.best(), 0);
        Due.same("no ship: mend", x.mend(), 0);
        Due.same("no ship: plan", x.plan(), 0);
        Due.same("no ship: wrong", x.wrong(), 0);
        for (int i = 0; i < 4; i++) {
            Due.same("no ship: left", x.left(i), i + 1);
            Due.same("no ship: put", x.put(0, i), false);
            Due.same("no ship: may", x.may(0, i), NONE);
        }
    }

    private static void objectsAreApart() {
        Map<String, Integer> before = Reading.of(Scenes::some);
        Due.same("another object is not touched", Reading.of(() -> {
            TallShips x = Scenes.some();
            TallShips other = Scenes.full();
            other.best();
            other.plan();
            other.tugs(0, 119, 9);
            Scenes.flat(other, 80);
            return x;
        }), before);
    }

    /** A new ship has no berth, no hour and fouls none, whatever was done before. */
    private static void laterShipIsNew() {
        TallShips x = Scenes.moored(2);
        x.foul(0, 1, true);
        x.best();
        x.plan();
        Due.same("a third ship", x.ship(10, 10, 10, 100, 0, 0, 1), 2);
        Due.same("has no berth", x.at(2), NONE);
        Due.same("has no hour", x.in(2), NONE);
        Due.same("is not in the parade", x.parade(0), 0);
        Due.same("counts not", x.count(2), 1);
        Due.same("has no show", x.count(3), 1);
        Due.same("is not open", x.open(2, 0, 119), NONE);
        x.put(2, 0);
        Due.same("fouls none", x.wrong(), 0);
        Due.same("is ahead by fame", x.parade(0), 2);
        Due.same("still has no hour", x.in(2), NONE);
    }

    private static void laterQuayIsEmpty() {
        TallShips x = Scenes.moored(7);
        Due.same("a second quay", x.quay(77, 200, false, 10, 0), 1);
        Due.same("nobody is there", x.left(1), 77);
        Due.same("show as before", x.count(3), 7);
    }

    private static TallShips fullRiver(int length, int crowd) {
        TallShips x = new TallShips();
        for (int i = 0; i < 4; i++) {
            x.quay(length, 200, i % 2 == 1, crowd, 30);
        }
        for (int i = 0; i < 7; i++) {
            x.ship(100, 10, 10, 100, 0, 0, 1);
        }
        return x;
    }

    private static void fullRiverAllGood() {
        TallShips x = fullRiver(210, 10);
        Due.same("two at each: best", x.best(), 7);
        Due.berths("two at each: best", x, 0, 0, 1, 1, 2, 2, 3);
        Due.same("two at each: show", x.count(3), 7000);
        Due.same("two at each: wrong", x.wrong(), 0);
        Due.same("two at each: left 0", x.left(0), 0);
        Due.same("two at each: left 3", x.left(3), 110);
        Due.same("two at each: plan", x.plan(), 21);
        Due.same("two at each: mend", x.mend(), 0);
        TallShips y = fullRiver(209, 10);
        Due.same("one at each: best", y.best(), 4);
        Due.berths("one at each: best", y, 0, 1, 2, 3, NONE, NONE, NONE);
        Due.same("one at each: plan", y.plan(), 6);
        Due.hours("one at each: plan", y, 0, 1, 2, 3, NONE, NONE, NONE);
    }

    private static void fullRiverAllAtOne() {
        TallShips x = fullRiver(760, 0);
        Due.same("all at one: best", x.best(), 7);
        Due.berths("all at one: best", x, 0, 0, 0, 0, 0, 0, 0);
        Due.same("all at one: left", x.left(0), 0);
        x.set(3, 11);
        Due.same("all but one: best", x.best(), 7);
        Due.berths("all but one: best", x, 0, 0, 0, 0, 0, 0, 1);
    }

    private static void fullRiverNoneGood() {
        TallShips x = fullRiver(4000, 10);
        for (int i = 0; i < 7; i++) {
            x.put(i, i % 4);
        }
        x.set(0, 0);
        Due.same("none may lie: best", x.best(), 0);
        Due.berths("none may lie", x, NONE, NONE, NONE, NONE, NONE, NONE, NONE);
        for (int i = 0; i < 7; i++) {
            x.put(i, i % 4);
        }
        Due.same("none may lie: mend", x.mend(), 7);
        Due.berths("none may lie", x, NONE, NONE, NONE, NONE, NONE, NONE, NONE);
        Due.same("none may lie: show", x.count(3), 0);
    }

    /** The greatest show that can be lost or won, with most and fewest ships moved. */
    private static void fullRiverGreatestShow() {
        TallShips x = new TallShips();
        x.quay(4000, 200, false, 0, 0);
        x.quay(4000, 200, false, 0, 0);
        x.quay(4000, 200, false, 0, 0);
        x.quay(4000, 200, false, 10, 0);
        for (int i = 0; i < 7; i++) {
            x.ship(500, 10, 10, 100, 0, 0, 1);
        }
        Due.same("all where the crowd is", x.best(), 7);
        Due.berths("all where the crowd is", x, 3, 3, 3, 3, 3, 3, 3);
        Due.same("all where the crowd is: show", x.count(3), 7000);
        x.ship(1, 1, 1, 1, 1, 1, 1);
        for (int i = 0; i < 7; i++) {
            x.put(i, 0);
        }
        Due.same("none moves for show", x.mend(), 0);
        Due.same("none moves for show: show", x.count(3), 0);
        Due.same("all move for best", x.best(), 7);
        Due.same("all move for best: show", x.count(3), 7000);
        for (int i = 0; i < 7; i++) {
            x.put(i, NONE);
        }
        Due.same("all from none", x.mend(), 7);
        Due.berths("all from none", x, 3, 3, 3, 3, 3, 3, 3);
    }

    private static void fullRiverOneEach() {
        TallShips x = new TallShips();
        int[] crowd = {1, 4, 2, 3};
        for (int i = 0; i < 4; i++) {
            x.quay(100, 200, false, crowd[i], 30);
        }
        int[] fame = {5, 40, 10, 50, 20, 30, 50};
        for (int i = 0; i < 7; i++) {
            x.ship(100, 10, 10, fame[i], 0, 0, 1);
        }
        Due.same("the four of most fame: best", x.best(), 4);
        Due.berths("the four of most fame", x, NONE, 2, NONE, 1, NONE, 0, 3);
        Due.same("the four of most fame: show", x.count(3), 80 + 200 + 30 + 150);
    }

    private static void fullRiverFoulsAll() {
        TallShips x = fullRiver(4000, 10);
        for (int a = 0; a < 7; a++) {
            for (int b = 0; b < a; b++) {
                Due.same("foul", x.foul(a, b, true), true);
            }
        }
        Due.same("all foul: best", x.best(), 4);
        Due.berths("all foul: best", x, 0, 1, 2, 3, NONE, NONE, NONE);
        x.foul(6, 3, false);
        Due.same("all but two foul: best", x.best(), 5);
        Due.berths("all but two foul: best", x, 0, 1, 2, 3, NONE, NONE, 3);
        for (int i = 0; i < 7; i++) {
            x.put(i, 2);
        }
        Due.same("all at one: wrong", x.wrong(), 20);
        Due.same("all at one: mend", x.mend(), 5);
        Due.berths("all at one: mend", x, 0, 1, 3, 2, NONE, NONE, 2);
    }

    private static void fullRiverMend() {
        TallShips x = fullRiver(210, 10);
        x.best();
        x.put(0, 3);
        x.put(1, 3);
        Due.same("one too many", x.wrong(), 33);
        Due.same("one must move: mend", x.mend(), 1);
        Due.berths("one must move: the first, to the least", x, 0, 3, 1, 1, 2, 2, 3);
        x.put(6, NONE);
        x.put(0, NONE);
        Due.same("two come again: mend", x.mend(), 2);
        Due.berths("two come again", x, 0, 3, 1, 1, 2, 2, 0);
    }

    /** Promise 14: 10 and the first ship, 20 and the first, 30 and the first quay: to the last number of each. */
    private static void fullRiverWrongs() {
        TallShips x = fullRiver(99, 1);
        for (int quay = 3; quay >= 0; quay--) {
            x.put(quay, quay);
            Due.same("too short", x.wrong(), 30 + quay);
        }
        for (int a = 5; a >= 0; a--) {
            x.put(a, 2);
            x.put(6, 2);
            x.foul(a, 6, true);
            Due.same("fouls before too short", x.wrong(), 20 + a);
        }
        x.set(0, 0);
        Due.same("none may come", x.wrong(), 10);
        for (int i = 0; i < 6; i++) {
            x.put(i, NONE);
            Due.same("the first that may not lie", x.wrong(), 11 + i);
        }
        x.put(6, NONE);
        Due.same("nobody lies", x.wrong(), 0);
    }

    /** Promise 17: "(below 0, too)": the least that can be left is still no sign of no such quay. */
    private static void fullRiverLeft() {
        TallShips x = new TallShips();
        x.quay(1, 200, false, 1, 0);
        x.set(3, 100);
        for (int i = 0; i < 7; i++) {
            x.ship(1200, 10, 10, 1, 0, 0, 1);
            x.put(i, 0);
            Due.same("left with " + (i + 1), x.left(0), 1 - 1200 * (i + 1) - 100 * i);
        }
        Due.same("left with seven", x.left(0), -8999);
        x.set(3, 0);
        Due.same("left without gaps", x.left(0), 1 - 8400);
    }

    /** Promise 18: "it is kept. NONE: there is none (the one that is kept stays)." */
    private static void planStays() {
        TallShips x = Scenes.moored(7);
        Due.same("plan", x.plan(), 21);
        for (int i = 0; i < 7; i++) {
            x.arrives(i, 114);
        }
        Due.same("seven for six hours", x.plan(), NONE);
        Due.hours("the one that is kept stays", x, 0, 1, 2, 3, 4, 5, 6);
        x.put(3, NONE);
        Due.hours("in the plan, though it has no berth now", x, 0, 1, 2, 3, 4, 5, 6);
        Due.same("six for six hours", x.plan(), 15);
        Due.hours("six for six hours", x, 114, 115, 116, NONE, 117, 118, 119);
        x.tugs(0, 119, 0);
        x.set(0, 0);
        Due.same("best changes no plan", x.best(), 0);
        Due.hours("best changes no plan", x, 114, 115, 116, NONE, 117, 118, 119);
        Due.same("mend changes no plan", x.mend(), 0);
        Due.hours("mend changes no plan", x, 114, 115, 116, NONE, 117, 118, 119);
    }

    private static void planOfNobody() {
        TallShips x = Scenes.moored(2);
        Due.same("two", x.plan(), 1);
        x.put(0, NONE);
        x.put(1, NONE);
        Due.hours("kept", x, 0, 1);
        Due.same("nobody", x.plan(), 0);
        Due.hours("the plan of nobody is kept", x, NONE, NONE);
    }

    /** "each SHIP that has a berth", GOOD or not. */
    private static void planGoodOrNot() {
        TallShips x = new TallShips();
        x.quay(1, 1, false, 1, 30);
        x.ship(10, 10, 10, 1, 0, 0, 1);
        x.ship(10, 10, 10, 2, 0, 0, 2);
        x.foul(0, 1, true);
        x.put(0, 0);
        x.put(1, 0);
        Due.same("aground", x.wrong(), 10);
        Due.same("aground, with an hour", x.plan(), 1);
        Due.hours("aground, with an hour", x, 0, 1);
        Due.same("aground, in the parade", x.parade(0), 1);
        Due.same("aground, minutes", x.minutes(), 2);
        Due.same("aground, open", x.open(0, 0, 119), 120);
        Due.same("aground, with a berth", x.count(2), 2);
        Due.same("aground, show", x.count(3), 3);
    }

    /** The rows of a search are used again: no plan may show in the next. */
    private static void planAfterPlan() {
        TallShips x = Scenes.moored(7);
        for (int round = 0; round < 7; round++) {
            int ships = 7 - round;
            Due.same("plan of " + ships, x.plan(), ships * (ships - 1) / 2);
            Due.same("mend moves those without a berth", x.mend(), round);
            for (int i = 0; i < 7; i++) {
                x.put(i, i <= round ? NONE : 0);
            }
        }
        Due.same("plan of none", x.plan(), 0);
        Due.same("best after all", x.best(), 7);
        Due.same("plan of seven again", x.plan(), 21);
    }

    /** Promise 15: BEST does not look at where the ships are now. */
    private static void bestForgetsWhatWas() {
        for (int was = NONE; was < 4; was++) {
            TallShips x = Scenes.river(7, 4);
            for (int i = 0; i < 7; i++) {
                x.put(i, was);
            }
            Due.same("best", x.best(), 7);
            TallShips y = Scenes.river(7, 4);
            y.best();
            for (int i = 0; i < 7; i++) {
                Due.same("best, whatever was", x.at(i), y.at(i));
            }
            Due.same("best is good", x.wrong(), 0);
            Due.same("mend has nothing to do behind best", x.mend(), 0);
        }
    }
}
