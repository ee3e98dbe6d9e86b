/**
 * The sentences of "Terms" that name an edge ("or more", "no more than", "above", "at
 * some HOUR", "of equal ones", "none being greater than all"): each on both of its sides.
 */
public final class TermsTest {
    private static final int NONE = -1;

    public static void main(String[] args) {
        atFirst();
        afloatOrMore();
        afloatAtTheExtremes();
        afloatOnTheLeastLevel();
        crossOrMore();
        crossAtTheExtremes();
        passNoMoreThan();
        passAtTheExtremes();
        passIsToCrossToo();
        keelBelowAndAbove();
        mayLieAtSomeHour();
        mayLieAboveMustPass();
        goodIfEachMayLie();
        goodIfNoTwoFoul();
        goodByLength();
        gapBetweenEachTwo();
        orderDoesNotMatter();
        showIsASum();
        bestIsMostShips();
        bestIsGreatestShow();
        bestIsLessQuay();
        noneIsGreaterThanAll();
        nearestIsMostShips();
        mostShipsHoweverManyMove();
        fewestMovedWhateverTheShow();
        nearestIsFewestMoved();
        nearestIsThenGreatestShow();
        nearestIsThenLessQuay();
        hourOfItsOwn();
        fromArrivesOn();
        comesWhereItCan();
        noMoreTugsThanThereAre();
        leastSumOfWaits();
        earlierHourForTheFirst();
        paradeByFame();
        behindByTheGreaterStop();
        gangwayIsASize();
        steepIsAboveSlope();
        Due.end("terms");
    }

    // ---- 1: the river, ships, quays

    /** "all 0 at first", "at first 40", "at first 500", "at first 5", "at first 10", "at first 40", "(at first 2)" */
    private static void atFirst() {
        TallShips x = new TallShips();
        Due.same("greatest level at first", x.count(5), 0);
        Due.same("least level at first", x.count(4), 0);
        int[] due = {40, 500, 5, 10, 40};
        for (int what = 0; what < 5; what++) {
            Due.same("setting at first " + what, x.set(what, 0), due[what]);
        }
        for (int needs = 0; needs <= 3; needs++) {
            TallShips y = Scenes.easy(0);
            y.ship(10, 10, 10, 1, needs, 0, 1);
            y.put(0, 0);
            for (int hour = 0; hour < 120; hour++) {
                y.arrives(0, hour);
                Due.same("two tugs at " + hour + " for " + needs, y.plan(), needs <= 2 ? 0 : NONE);
            }
        }
    }

    /** "A SHIP is AFLOAT at a QUAY: DEPTH and the least level are DRAUGHT and KEEL or more." */
    private static void afloatOrMore() {
        TallShips x = new TallShips();
        x.set(0, 200);
        x.quay(100, 50, false, 1, 0);
        x.quay(100, 49, false, 1, 0);
        x.ship(10, 47, 10, 1, 0, 0, 1);
        x.ship(10, 48, 10, 1, 0, 0, 1);
        Scenes.flat(x, 2);
        Due.same("52 for 52", x.may(0, 0), 0);
        Due.same("51 for 52", x.may(0, 1), 1);
        Due.same("52 for 53", x.may(1, 0), 1);
        x.set(2, 4);
        Due.same("51 for 51", x.may(0, 1), 0);
        Due.same("52 for 52, the other", x.may(1, 0), 0);
        x.tide(6, 1);
        Due.same("50 for 51", x.may(0, 1), 1);
        Due.same("51 for 52, the other", x.may(1, 0), 1);
        x.tide(6, 3);
        Due.same("a greater level changes nothing", x.may(0, 1), 0);
    }

    private static void afloatAtTheExtremes() {
        TallShips x = new TallShips();
        x.set(0, 200);
        x.quay(100, 1, false, 1, 0);
        x.quay(100, 60, false, 1, 0);
        x.quay(100, 59, false, 1, 0);
        x.quay(100, 200, false, 1, 0);
        x.ship(10, 1, 10, 1, 0, 0, 1);
        x.ship(10, 120, 10, 1, 0, 0, 1);
        x.set(2, 0);
        Due.same("1 for 1", x.may(0, 0), 0);
        x.set(2, 1);
        Due.same("1 for 2", x.may(0, 0), 1);
        x.set(2, 20);
        Scenes.flat(x, 80);
        Due.same("140 for 140", x.may(1, 1), 0);
        Due.same("139 for 140", x.may(1, 2), 1);
        Due.same("280 for 140", x.may(1, 3), 0);
        Scenes.flat(x, 0);
        Due.same("200 for 140", x.may(1, 3), 0);
        Due.same("60 for 140", x.may(1, 1), 1);
    }

    /** "the least level": of all twelve, at whatever place it is, whether an HOUR of it is still to come or not. */
    private static void afloatOnTheLeastLevel() {
        for (int place = 0; place < 12; place++) {
            TallShips x = new TallShips();
            x.set(0, 200);
            x.quay(100, 45, false, 1, 0);
            x.ship(10, 45, 10, 1, 0, 0, 1);
            Scenes.flat(x, 6);
            x.tide(place, 5);
            Due.same("just afloat on the least, place " + place, x.may(0, 0), 0);
            x.tide(place, 4);
            Due.same("aground on the least, place " + place, x.may(0, 0), 1);
            Due.same("least level, place " + place, x.count(4), 4);
            Due.same("greatest level, place " + place, x.count(5), 6);
            x.arrives(0, 119);
            Due.same("aground though but one hour is left, place " + place, x.may(0, 0), 1);
            x.tide(place, 7);
            Due.same("least level of the others, place " + place, x.count(4), 6);
            Due.same("greatest level there, place " + place, x.count(5), 7);
        }
    }

    /** "It can CROSS at an HOUR: BAR and level are DRAUGHT and KEEL or more." */
    private static void crossOrMore() {
        TallShips x = new TallShips();
        x.ship(10, 50, 10, 1, 0, 0, 1);
        x.tide(4, 14);
        x.tide(7, 15);
        Due.same("55 for 55, 54 is too little", x.first(0, 0, 0), 7);
        x.set(0, 41);
        Due.same("bar 41", x.first(0, 0, 0), 4);
        x.set(2, 6);
        Due.same("keel 6", x.first(0, 0, 0), 7);
        x.set(0, 40);
        Due.same("55 for 56", x.first(0, 0, 0), NONE);
        x.set(0, 55);
        Due.same("55 for 56 at level 0", x.first(0, 0, 0), 4);
        x.set(0, 56);
        Due.same("56 for 56 at level 0", x.first(0, 0, 0), 0);
    }

    private static void crossAtTheExtremes() {
        TallShips x = new TallShips();
        x.ship(10, 1, 10, 1, 0, 0, 1);
        x.ship(10, 120, 10, 1, 0, 0, 1);
        x.set(0, 0);
        x.set(2, 0);
        Due.same("0 for 1", x.first(0, 0, 0), NONE);
        x.tide(11, 1);
        Due.same("1 for 1", x.first(0, 0, 0), 11);
        x.set(0, 60);
        x.set(2, 20);
        x.tide(11, 79);
        Due.same("139 for 140", x.first(1, 0, 0), NONE);
        x.tide(11, 80);
        Due.same("140 for 140", x.first(1, 0, 0), 11);
        x.set(0, 200);
        Due.same("200 for 140", x.first(1, 0, 0), 0);
    }

    /** "It can PASS at an HOUR: it can CROSS, and HEIGHT, level and KEEL are no more than the BRIDGE." */
    private static void passNoMoreThan() {
        TallShips x = new TallShips();
        x.ship(10, 10, 480, 1, 0, 0, 1);
        Scenes.flat(x, 17);
        x.tide(4, 16);
        x.tide(7, 15);
        Due.same("500 under 500, 501 is too high", x.first(0, 0, 1), 7);
        Due.same("it can cross at once", x.first(0, 0, 0), 0);
        x.set(1, 501);
        Due.same("501 under 501", x.first(0, 0, 1), 4);
        x.set(2, 6);
        Due.same("keel 6", x.first(0, 0, 1), 7);
        x.set(1, 500);
        Due.same("501 under 500", x.first(0, 0, 1), NONE);
        x.set(1, 503);
        Due.same("503 under 503", x.first(0, 0, 1), 0);
    }

    private static void passAtTheExtremes() {
        TallShips x = new TallShips();
        x.ship(10, 1, 1, 1, 0, 0, 1);
        x.ship(10, 1, 700, 1, 0, 0, 1);
        x.set(2, 0);
        x.set(1, 0);
        Due.same("1 under 0", x.first(0, 0, 1), NONE);
        x.set(1, 1);
        Due.same("1 under 1", x.first(0, 0, 1), 0);
        x.set(2, 20);
        Scenes.flat(x, 80);
        x.set(1, 799);
        Due.same("800 under 799", x.first(1, 0, 1), NONE);
        x.set(1, 800);
        Due.same("800 under 800", x.first(1, 0, 1), 0);
        x.set(1, 900);
        Due.same("800 under 900", x.first(1, 0, 1), 0);
    }

    private static void passIsToCrossToo() {
        TallShips x = new TallShips();
        x.ship(10, 45, 480, 1, 0, 0, 1);
        x.tide(2, 9);
        x.tide(3, 16);
        Due.same("too low to cross, or too high to pass", x.first(0, 0, 1), NONE);
        Due.same("but it can cross", x.first(0, 0, 0), 3);
        x.tide(8, 10);
        Due.same("neither too low nor too high", x.first(0, 0, 1), 8);
        x.tide(8, 15);
        Due.same("still neither", x.first(0, 0, 1), 8);
        x.set(1, 900);
        x.set(0, 0);
        Due.same("no bridge helps over the bar", x.first(0, 0, 1), NONE);
    }

    /** "KEEL ..: what must be clear below, and above." */
    private static void keelBelowAndAbove() {
        TallShips x = new TallShips();
        x.quay(100, 40, false, 1, 0);
        x.quay(100, 200, true, 1, 0);
        x.ship(10, 40, 500, 1, 0, 0, 1);
        x.set(2, 0);
        Due.same("no keel: afloat", x.may(0, 0), 0);
        Due.same("no keel: crosses", x.first(0, 0, 0), 0);
        Due.same("no keel: passes", x.may(0, 1), 0);
        x.set(2, 1);
        Due.same("keel 1: aground", x.may(0, 0), 1);
        Due.same("keel 1: does not cross", x.first(0, 0, 0), NONE);
        x.set(0, 200);
        Due.same("keel 1: crosses", x.first(0, 0, 0), 0);
        Due.same("keel 1: does not pass", x.may(0, 1), 2);
    }

    /** "it can CROSS .. at some HOUR from ARRIVES to 119" */
    private static void mayLieAtSomeHour() {
        for (int place = 0; place < 12; place++) {
            TallShips x = new TallShips();
            x.quay(100, 200, false, 1, 0);
            x.ship(10, 40, 10, 1, 0, 0, 1);
            Due.same("no hour at all", x.may(0, 0), 2);
            x.tide(place, 5);
            int last = 108 + place;
            Due.same("from 0, place " + place, x.may(0, 0), 0);
            x.arrives(0, last);
            Due.same("from its last hour, place " + place, x.may(0, 0), 0);
            if (last < 119) {
                x.arrives(0, last + 1);
                Due.same("one hour later, place " + place, x.may(0, 0), 2);
            }
        }
    }

    /** "(if that is ABOVE: PASS)"; "1 it is not AFLOAT, 2 it can't come (the first)" */
    private static void mayLieAboveMustPass() {
        TallShips x = new TallShips();
        x.quay(100, 200, true, 1, 0);
        x.quay(100, 200, false, 1, 0);
        x.quay(100, 1, true, 1, 0);
        x.ship(10, 10, 486, 1, 0, 108, 1);
        Scenes.flat(x, 10);
        x.tide(0, 9);
        Due.same("above: at its arrival only", x.may(0, 0), 0);
        x.arrives(0, 109);
        Due.same("above: too high from then on", x.may(0, 0), 2);
        Due.same("not above: it need not pass", x.may(0, 1), 0);
        Due.same("aground and can't come: the first", x.may(0, 2), 1);
        x.set(0, 0);
        Due.same("not above: it must cross", x.may(0, 1), 2);
        x.tide(0, 0);
        x.tide(11, 15);
        Due.same("crosses at 119", x.may(0, 1), 0);
        Due.same("does not pass at 119", x.may(0, 0), 2);
    }

    // ---- 2: berths

    /** "They are GOOD, if each may lie there" */
    private static void goodIfEachMayLie() {
        for (int ship = 0; ship < 7; ship++) {
            TallShips x = Scenes.moored(0);
            x.quay(4000, 14, false, 1, 30);
            for (int i = 0; i < 7; i++) {
                x.ship(10, 10, 10, 1, 0, 0, 1);
                x.put(i, 0);
            }
            Due.same("each may lie", x.wrong(), 0);
            x.put(ship, 1);
            Due.same("aground by one", x.wrong(), 10 + ship);
            x.put(6, 1);
            Due.same("the first of them", x.wrong(), 10 + ship);
            x.set(2, 4);
            Due.same("just afloat", x.wrong(), 0);
        }
    }

    /** "of those at a QUAY no two FOUL" */
    private static void goodIfNoTwoFoul() {
        for (int a = 0; a < 7; a++) {
            for (int b = a + 1; b < 7; b++) {
                TallShips x = Scenes.moored(7);
                x.quay(4000, 200, false, 1, 30);
                x.foul(b, a, true);
                Due.same("two of seven foul", x.wrong(), 20 + a);
                x.put(b, 1);
                Due.same("not at two quays", x.wrong(), 0);
                x.put(a, 1);
                Due.same("at the other quay", x.wrong(), 20 + a);
                x.put(a, NONE);
                Due.same("not with one at none", x.wrong(), 0);
                x.put(b, NONE);
                Due.same("not with both at none", x.wrong(), 0);
            }
        }
    }

    /** "their LENGTHS, and GAP .. between each two that are side by side, are no more than its LENGTH" */
    private static void goodByLength() {
        TallShips x = new TallShips();
        x.quay(110, 200, false, 1, 0);
        x.ship(50, 10, 10, 1, 0, 0, 1);
        x.ship(50, 10, 10, 1, 0, 0, 1);
        x.put(0, 0);
        x.put(1, 0);
        Due.same("110 of 110", x.wrong(), 0);
        Due.same("110 of 110: left", x.left(0), 0);
        x.set(3, 11);
        Due.same("111 of 110", x.wrong(), 30);
        Due.same("111 of 110: left", x.left(0), -1);
        Due.same("111 of 110: best", x.best(), 1);
        Due.berths("111 of 110: best", x, 0, NONE);
        x.set(3, 10);
        Due.same("110 of 110: best", x.best(), 2);
        Due.berths("110 of 110: best", x, 0, 0);
        TallShips one = new TallShips();
        one.quay(100, 200, false, 1, 0);
        one.quay(99, 200, false, 1, 0);
        one.ship(100, 10, 10, 1, 0, 0, 1);
        one.set(3, 100);
        one.put(0, 0);
        Due.same("one alone has no gap", one.wrong(), 0);
        Due.same("one alone: left", one.left(0), 0);
        one.put(0, 1);
        Due.same("one alone is too long by one", one.wrong(), 31);
        Due.same("one alone: best", one.best(), 1);
        Due.berths("one alone: best", one, 0);
    }

    private static void gapBetweenEachTwo() {
        for (int gap : new int[] {0, 1, 10, 100}) {
            for (int ships = 1; ships <= 7; ships++) {
                int length = 20 * ships + gap * (ships - 1);
                TallShips x = new TallShips();
                x.set(3, gap);
                x.quay(length, 200, false, 1, 0);
                for (int i = 0; i < ships; i++) {
                    x.ship(20, 10, 10, 1, 0, 0, 1);
                    x.put(i, 0);
                }
                String name = ships + " ships with gap " + gap;
                Due.same(name + ": left", x.left(0), 0);
                Due.same(name + ": wrong", x.wrong(), 0);
                Due.same(name + ": best", x.best(), ships);
                TallShips less = new TallShips();
                less.set(3, gap);
                less.quay(length - 1, 200, false, 1, 0);
                for (int i = 0; i < ships; i++) {
                    less.ship(20, 10, 10, 1, 0, 0, 1);
                    less.put(i, 0);
                }
                Due.same(name + ", one too short: left", less.left(0), -1);
                Due.same(name + ", one too short: wrong", less.wrong(), 30);
                Due.same(name + ", one too short: mend", less.mend(), 1);
                Due.same(name + ", one too short: the last goes", less.at(ships - 1), NONE);
            }
        }
    }

    /** "(The order there does not matter.)" */
    private static void orderDoesNotMatter() {
        int[][] orders = {{0, 1, 2}, {0, 2, 1}, {1, 0, 2}, {1, 2, 0}, {2, 0, 1}, {2, 1, 0}};
        for (int[] order : orders) {
            TallShips x = new TallShips();
            x.quay(120, 200, false, 1, 0);
            x.ship(50, 10, 10, 1, 0, 0, 1);
            x.ship(20, 10, 10, 1, 0, 0, 1);
            x.ship(30, 10, 10, 1, 0, 0, 1);
            for (int ship : order) {
                x.put(ship, 0);
            }
            Due.same("three of any order: left", x.left(0), 0);
            Due.same("three of any order: wrong", x.wrong(), 0);
        }
    }

    /** "SHOW: the sum of FAME times CROWD." */
    private static void showIsASum() {
        TallShips x = new TallShips();
        x.quay(4000, 200, false, 10, 0);
        x.quay(4000, 200, false, 0, 0);
        for (int i = 0; i < 7; i++) {
            x.ship(10, 10, 10, 100, 0, 0, 1);
            x.put(i, 0);
            Due.same("greatest fame and crowd", x.count(3), 1000 * (i + 1));
        }
        for (int i = 0; i < 7; i++) {
            x.put(i, 1);
            Due.same("no crowd", x.count(3), 6000 - 1000 * i);
        }
        TallShips y = new TallShips();
        y.quay(100, 200, false, 10, 0);
        y.ship(10, 10, 10, 0, 0, 0, 1);
        y.put(0, 0);
        Due.same("no fame", y.count(3), 0);
    }

    /** "BEST: of all GOOD BERTHS those with the most SHIPS at QUAYS" */
    private static void bestIsMostShips() {
        TallShips x = new TallShips();
        x.quay(100, 200, false, 10, 0);
        x.ship(100, 10, 10, 100, 0, 0, 1);
        for (int i = 1; i < 7; i++) {
            x.ship(10, 10, 10, 0, 0, 0, 1);
        }
        x.set(3, 8);
        Due.same("six of no fame before one of fame", x.best(), 6);
        Due.berths("six of no fame", x, NONE, 0, 0, 0, 0, 0, 0);
        Due.same("six of no fame: show", x.count(3), 0);
        x.set(3, 90);
        Due.same("one by one", x.best(), 1);
        Due.berths("one of fame", x, 0, NONE, NONE, NONE, NONE, NONE, NONE);
        x.set(3, 80);
        Due.same("two of no fame before one of fame", x.best(), 2);
        Due.berths("two of no fame", x, NONE, 0, 0, NONE, NONE, NONE, NONE);
    }

    /** "of equal ones the greatest SHOW" */
    private static void bestIsGreatestShow() {
        TallShips x = new TallShips();
        x.quay(10, 200, false, 4, 0);
        x.quay(10, 200, false, 5, 0);
        x.ship(10, 10, 10, 1, 0, 0, 1);
        x.ship(10, 10, 10, 2, 0, 0, 1);
        Due.same("both", x.best(), 2);
        Due.berths("show 14 before show 13", x, 0, 1);
        TallShips y = new TallShips();
        y.quay(10, 200, false, 5, 0);
        y.quay(10, 200, false, 4, 0);
        y.ship(10, 10, 10, 1, 0, 0, 1);
        y.ship(10, 10, 10, 2, 0, 0, 1);
        Due.same("both, quays the other way", y.best(), 2);
        Due.berths("the less quay for the first gives way to show", y, 1, 0);
        y.ship(10, 10, 10, 2, 0, 0, 1);
        Due.same("two of three", y.best(), 2);
        Due.berths("the first is left out for show", y, NONE, 0, 1);
    }

    /** "then the less QUAY for the first SHIP that is not alike" */
    private static void bestIsLessQuay() {
        TallShips x = new TallShips();
        for (int i = 0; i < 4; i++) {
            x.quay(10, 200, false, 3, 0);
        }
        for (int i = 0; i < 4; i++) {
            x.ship(10, 10, 10, 50, 0, 0, 1);
            x.put(i, 3 - i);
        }
        Due.same("four at four, all equal", x.best(), 4);
        Due.berths("in the order of their numbers", x, 0, 1, 2, 3);
        TallShips y = new TallShips();
        y.quay(20, 200, false, 1, 0);
        y.quay(20, 200, false, 1, 0);
        y.ship(10, 10, 10, 1, 0, 0, 1);
        y.ship(10, 10, 10, 1, 0, 0, 1);
        y.ship(10, 10, 10, 1, 0, 0, 1);
        y.set(3, 0);
        y.foul(0, 1, true);
        Due.same("two at one quay", y.best(), 3);
        Due.berths("the second is not alike, then the third", y, 0, 1, 0);
        y.foul(0, 2, true);
        Due.same("the others foul the first", y.best(), 3);
        Due.berths("the others foul the first", y, 0, 1, 1);
    }

    /** "none being greater than all" */
    private static void noneIsGreaterThanAll() {
        for (int only = 0; only < 4; only++) {
            TallShips x = new TallShips();
            for (int i = 0; i < 4; i++) {
                x.quay(10, i == only ? 200 : 1, false, 3, 0);
            }
            for (int i = 0; i < 3; i++) {
                x.ship(10, 10, 10, 50, 0, 0, 1);
            }
            Due.same("one of three", x.best(), 1);
            Due.berths("the first has quay " + only + " rather than none", x, only, NONE, NONE);
        }
        TallShips x = new TallShips();
        x.quay(10, 200, false, 0, 0);
        x.quay(10, 200, false, 0, 0);
        x.quay(10, 200, false, 0, 0);
        for (int i = 0; i < 7; i++) {
            x.ship(10, 10, 10, 0, 0, 0, 1);
        }
        x.foul(0, 1, true);
        Due.same("three of seven", x.best(), 3);
        Due.berths("three of seven", x, 0, 1, 2, NONE, NONE, NONE, NONE);
    }

    /** "NEAREST: those that are GOOD, with the most SHIPS at QUAYS" */
    private static void nearestIsMostShips() {
        TallShips x = new TallShips();
        x.quay(10, 200, false, 10, 0);
        x.quay(20, 200, false, 0, 0);
        x.ship(10, 10, 10, 100, 0, 0, 1);
        x.ship(20, 10, 10, 0, 0, 0, 1);
        x.put(0, 1);
        Due.same("one is good, two are more", x.mend(), 2);
        Due.berths("one is good, two are more", x, 0, 1);
        Due.same("nothing to do", x.mend(), 0);
        Due.berths("nothing to do", x, 0, 1);
        TallShips y = Scenes.easy(7);
        Due.same("seven from none", y.mend(), 7);
        Due.berths("seven from none", y, 0, 0, 0, 0, 0, 0, 0);
        y.set(0, 0);
        Due.same("seven to none", y.mend(), 7);
        Due.berths("seven to none", y, NONE, NONE, NONE, NONE, NONE, NONE, NONE);
    }

    /** One ship more at a quay, though all must move for it. */
    private static void mostShipsHoweverManyMove() {
        TallShips x = new TallShips();
        x.quay(1200, 200, false, 10, 0);
        x.quay(1199, 200, false, 0, 0);
        for (int i = 0; i < 6; i++) {
            x.ship(100, 10, 10, 100, 0, 0, 1);
            x.put(i, 0);
        }
        x.ship(1200, 10, 10, 0, 0, 0, 1);
        Due.same("all move for one more", x.mend(), 7);
        Due.berths("all move for one more", x, 1, 1, 1, 1, 1, 1, 0);
        Due.same("all move for one more: show", x.count(3), 0);
    }

    /** One ship fewer moved, though nearly all the show is lost by it. */
    private static void fewestMovedWhateverTheShow() {
        TallShips x = new TallShips();
        x.quay(1200, 200, false, 10, 0);
        x.quay(4000, 200, false, 0, 0);
        x.ship(1200, 10, 10, 0, 0, 0, 1);
        x.put(0, 0);
        for (int i = 1; i < 7; i++) {
            x.ship(100, 10, 10, 100, 0, 0, 1);
        }
        Due.same("the first stays in the others' way", x.mend(), 6);
        Due.berths("the first stays in the others' way", x, 0, 1, 1, 1, 1, 1, 1);
        Due.same("all that is lost by it", x.count(3), 0);
        Due.same("best lets it go", x.best(), 7);
        Due.berths("best lets it go", x, 1, 0, 0, 0, 0, 0, 0);
        Due.same("what is won by it", x.count(3), 6000);
    }

    /** "of equal ones the fewest SHIPS that are elsewhere than now (to none, from none too)" */
    private static void nearestIsFewestMoved() {
        TallShips x = new TallShips();
        x.quay(10, 200, false, 10, 0);
        x.quay(10, 200, false, 0, 0);
        x.ship(10, 10, 10, 0, 0, 0, 1);
        x.ship(10, 10, 10, 100, 0, 0, 1);
        x.put(0, 0);
        x.put(1, 1);
        Due.same("none moves for show", x.mend(), 0);
        Due.berths("none moves for show", x, 0, 1);
        x.ship(10, 10, 10, 100, 0, 0, 1);
        Due.same("none goes for another", x.mend(), 0);
        Due.berths("none goes for another", x, 0, 1, NONE);
        x.put(1, NONE);
        Due.same("from none counts once", x.mend(), 1);
        Due.berths("from none: equal show, the less number", x, 0, 1, NONE);
        x.put(2, 1);
        Due.same("to none counts once", x.mend(), 1);
        Due.berths("to none: equal show, the less number", x, 0, 1, NONE);
        x.put(1, 0);
        x.put(0, NONE);
        Due.same("free for one from none", x.mend(), 1);
        Due.berths("free for one from none: show is none at that quay", x, 1, 0, NONE);
    }

    private static void nearestIsThenGreatestShow() {
        TallShips x = new TallShips();
        x.quay(10, 200, false, 5, 0);
        x.ship(10, 10, 10, 1, 0, 0, 1);
        x.ship(10, 10, 10, 2, 0, 0, 1);
        x.put(0, 0);
        x.put(1, 0);
        Due.same("one must go", x.mend(), 1);
        Due.berths("that of less fame goes", x, NONE, 0);
        TallShips y = new TallShips();
        y.quay(10, 200, false, 1, 0);
        y.quay(10, 200, false, 2, 0);
        y.quay(10, 200, false, 3, 0);
        y.ship(10, 10, 10, 1, 0, 0, 1);
        y.ship(10, 10, 10, 1, 0, 0, 1);
        y.put(0, 0);
        y.put(1, 0);
        Due.same("one must move", y.mend(), 1);
        Due.berths("to the greater crowd, of equal ships the second", y, 0, 2);
    }

    /** "then as BEST": the less QUAY for the first SHIP that is not alike */
    private static void nearestIsThenLessQuay() {
        TallShips x = new TallShips();
        x.quay(10, 200, false, 1, 0);
        x.quay(10, 200, false, 1, 0);
        x.quay(10, 200, false, 1, 0);
        x.quay(10, 200, false, 1, 0);
        x.ship(10, 10, 10, 1, 0, 0, 1);
        x.ship(10, 10, 10, 1, 0, 0, 1);
        x.put(0, 1);
        x.put(1, 1);
        Due.same("one must move", x.mend(), 1);
        Due.berths("the first, to the least quay", x, 0, 1);
        x.put(0, 0);
        x.put(1, 0);
        Due.same("one must move again", x.mend(), 1);
        Due.berths("the first stays, for all others are greater", x, 0, 1);
        TallShips y = new TallShips();
        y.quay(10, 200, false, 1, 0);
        y.ship(10, 10, 10, 1, 0, 0, 1);
        y.ship(10, 10, 10, 1, 0, 0, 1);
        y.put(0, 0);
        y.put(1, 0);
        Due.same("one must go", y.mend(), 1);
        Due.berths("none is greater than all", y, 0, NONE);
    }

    // ---- 3: in, parade, visitors

    /** "each SHIP that has a berth comes in an HOUR of its own" */
    private static void hourOfItsOwn() {
        for (int ships = 1; ships <= 7; ships++) {
            TallShips x = Scenes.moored(ships);
            for (int i = 0; i < ships; i++) {
                x.arrives(i, 120 - ships);
            }
            Due.same(ships + " ships for as many hours", x.plan(), ships * (ships - 1) / 2);
            for (int i = 0; i < ships; i++) {
                Due.same(ships + " ships: in(" + i + ")", x.in(i), 120 - ships + i);
            }
            if (ships > 1) {
                for (int i = 0; i < ships; i++) {
                    x.arrives(i, 121 - ships);
                }
                Due.same(ships + " ships for one hour less", x.plan(), NONE);
            }
        }
        TallShips x = Scenes.easy(3);
        x.put(1, 0);
        Due.same("those without a berth take no hour", x.plan(), 0);
        Due.hours("those without a berth take no hour", x, NONE, 0, NONE);
    }

    /** "from ARRIVES on"; "WAIT: that HOUR less ARRIVES" */
    private static void fromArrivesOn() {
        TallShips x = Scenes.moored(1);
        for (int hour : new int[] {0, 1, 60, 118, 119}) {
            x.arrives(0, hour);
            Due.same("at once", x.plan(), 0);
            Due.same("at its arrival", x.in(0), hour);
        }
        TallShips y = Scenes.easy(0);
        y.ship(10, 10, 10, 1, 1, 60, 1);
        y.put(0, 0);
        y.tugs(0, 119, 0);
        y.tugs(59, 59, 1);
        Due.same("an hour too early", y.plan(), NONE);
        y.tugs(119, 119, 1);
        Due.same("the last hour", y.plan(), 59);
        Due.hours("the last hour", y, 119);
        y.tugs(60, 60, 1);
        Due.same("its own arrival", y.plan(), 0);
        Due.hours("its own arrival", y, 60);
    }

    /** "at which it can CROSS (PASS, if its QUAY is ABOVE)" */
    private static void comesWhereItCan() {
        TallShips x = new TallShips();
        x.quay(100, 200, false, 1, 0);
        x.quay(100, 200, true, 1, 0);
        x.ship(10, 45, 480, 1, 0, 0, 1);
        x.tide(2, 9);
        x.tide(3, 16);
        x.tide(5, 10);
        x.put(0, 0);
        Due.same("it must cross", x.plan(), 3);
        x.put(0, 1);
        Due.same("it must pass", x.plan(), 5);
        x.tide(5, 9);
        Due.same("it never can pass", x.plan(), NONE);
        x.tide(11, 15);
        Due.same("it can pass at 11", x.plan(), 11);
        x.arrives(0, 108);
        Due.same("it can pass at 119", x.plan(), 11);
        Due.hours("it can pass at 119", x, 119);
        x.put(0, 0);
        x.arrives(0, 112);
        Due.same("it can cross at 119", x.plan(), 7);
        x.tide(11, 9);
        Due.same("it can't cross any more", x.plan(), NONE);
    }

    /** "needs no more TUGS than there are at that HOUR" */
    private static void noMoreTugsThanThereAre() {
        for (int needs = 0; needs <= 3; needs++) {
            TallShips x = Scenes.easy(0);
            x.ship(10, 10, 10, 1, needs, 0, 1);
            x.put(0, 0);
            for (int tugs = 0; tugs <= 9; tugs++) {
                x.tugs(0, 119, tugs);
                Due.same("needs " + needs + " of " + tugs, x.plan(), needs <= tugs ? 0 : NONE);
            }
            if (needs > 0) {
                x.tugs(0, 119, needs - 1);
                x.tugs(119, 119, needs);
                Due.same("needs " + needs + " at 119", x.plan(), 119);
                x.tugs(0, 0, needs);
                Due.same("needs " + needs + " at 0", x.plan(), 0);
            }
        }
    }

    /** "The BEST PLAN: the least sum of WAITS" */
    private static void leastSumOfWaits() {
        TallShips x = Scenes.easy(1);
        x.ship(10, 10, 10, 1, 1, 0, 1);
        x.put(0, 0);
        x.put(1, 0);
        x.tugs(1, 118, 0);
        Due.same("the first gives way", x.plan(), 1);
        Due.hours("the first gives way", x, 1, 0);
        TallShips most = Scenes.easy(0);
        for (int i = 0; i < 7; i++) {
            most.ship(10, 10, 10, 1, 3, 0, 1);
            most.put(i, 0);
        }
        most.tugs(113, 119, 3);
        Due.same("the greatest sum that can be", most.plan(), 113 + 114 + 115 + 116 + 117 + 118 + 119);
        Due.hours("the greatest sum that can be", most, 113, 114, 115, 116, 117, 118, 119);
        most.arrives(0, 119);
        Due.same("the first at the last hour", most.plan(), 113 + 114 + 115 + 116 + 117 + 118);
        Due.hours("the first at the last hour", most, 119, 113, 114, 115, 116, 117, 118);
        TallShips two = Scenes.easy(0);
        two.ship(10, 10, 10, 1, 2, 0, 1);
        two.ship(10, 10, 10, 1, 3, 0, 1);
        two.put(0, 0);
        two.put(1, 0);
        two.tugs(0, 119, 0);
        two.tugs(10, 10, 3);
        two.tugs(12, 12, 2);
        two.tugs(13, 13, 3);
        Due.same("10 and 12 before 10 and 13", two.plan(), 22);
        Due.hours("10 and 12 before 10 and 13", two, 12, 10);
    }

    /** "of equal ones the earlier HOUR for the first SHIP that is not alike" */
    private static void earlierHourForTheFirst() {
        TallShips x = Scenes.moored(7);
        Due.same("seven alike", x.plan(), 21);
        Due.hours("seven alike", x, 0, 1, 2, 3, 4, 5, 6);
        for (int ship = 0; ship < 7; ship++) {
            x.arrives(ship, 6 - ship);
        }
        Due.same("each at once", x.plan(), 0);
        Due.hours("each at once", x, 6, 5, 4, 3, 2, 1, 0);
        TallShips y = Scenes.moored(3);
        y.arrives(0, 1);
        Due.same("sum 2, whoever has hour 1", y.plan(), 2);
        Due.hours("the first has it", y, 1, 0, 2);
        TallShips z = Scenes.moored(3);
        z.arrives(2, 1);
        Due.same("sum 2 again", z.plan(), 2);
        Due.hours("the first, then the second", z, 0, 1, 2);
        z.put(0, NONE);
        Due.same("without the first", z.plan(), 0);
        Due.hours("without the first", z, NONE, 0, 1);
    }

    /** "by FAME, the greatest first, of equal ones the less number" */
    private static void paradeByFame() {
        TallShips x = Scenes.moored(7);
        for (int i = 0; i < 7; i++) {
            Due.same("all equal", x.parade(i), i);
        }
        x.put(3, NONE);
        int[] due = {0, 1, 2, 4, 5, 6, NONE};
        for (int i = 0; i < 7; i++) {
            Due.same("all equal, one without a berth", x.parade(i), due[i]);
        }
        TallShips y = Scenes.easy(0);
        int[] fame = {0, 100, 50, 51, 100, 49, 0};
        int[] order = {1, 4, 3, 2, 5, 0, 6};
        for (int i = 0; i < 7; i++) {
            y.ship(10, 10, 10, fame[i], 0, 0, 1);
            y.put(i, 0);
        }
        for (int i = 0; i < 7; i++) {
            Due.same("by fame", y.parade(i), order[i]);
        }
        Due.same("one more than there are", y.parade(7), NONE);
        Due.same("one less than the first", y.parade(-1), NONE);
    }

    /** "Each is behind the one ahead by the greater of the two's STOP." */
    private static void behindByTheGreaterStop() {
        TallShips x = Scenes.easy(0);
        int[] stop = {1, 60, 60, 2, 3, 3, 1};
        int[] due = {0, 60, 120, 180, 183, 186, 189};
        for (int i = 0; i < 7; i++) {
            x.ship(10, 10, 10, 7 - i, 0, 0, stop[i]);
            x.put(i, 0);
            Due.same("the first " + (i + 1), x.minutes(), due[i]);
        }
        x.put(1, NONE);
        Due.same("without the second", x.minutes(), 60 + 60 + 3 + 3 + 3);
        x.put(2, NONE);
        Due.same("without the third", x.minutes(), 2 + 3 + 3 + 3);
        TallShips most = Scenes.easy(0);
        for (int i = 0; i < 7; i++) {
            most.ship(10, 10, 10, i, 0, 0, 60);
            most.put(i, 0);
        }
        Due.same("the most that can be", most.minutes(), 360);
        Due.same("the least that can be", Scenes.moored(7).minutes(), 6);
        Due.same("one alone", Scenes.moored(1).minutes(), 0);
        Due.same("none", Scenes.moored(0).minutes(), 0);
    }

    /** "the size of DECK less (level, and 30)" */
    private static void gangwayIsASize() {
        for (int deck : new int[] {0, 29, 30, 31, 69, 70, 71, 119, 120}) {
            for (int level : new int[] {0, 1, 39, 40, 41, 79, 80}) {
                TallShips x = new TallShips();
                x.quay(100, 200, false, 1, deck);
                x.ship(10, 10, 10, 1, 0, 0, 1);
                x.put(0, 0);
                x.tide(7, level);
                int size = Math.abs(deck - (level + 30));
                String name = "deck " + deck + ", level " + level;
                if (size <= 100) {
                    x.set(4, size);
                    Due.same(name + ", not steep", x.open(0, 7, 7), 1);
                }
                if (size > 0) {
                    x.set(4, Math.min(100, size - 1));
                    Due.same(name + ", steep", x.open(0, 7, 7), 0);
                }
            }
        }
    }

    /** "STEEP: above SLOPE (0 .. 100; at first 40)." */
    private static void steepIsAboveSlope() {
        TallShips x = new TallShips();
        x.quay(100, 200, false, 1, 70);
        x.quay(100, 200, false, 1, 71);
        x.quay(100, 200, false, 1, 10);
        x.quay(100, 200, false, 1, 9);
        x.ship(10, 10, 10, 1, 0, 119, 1);
        x.put(0, 0);
        Due.same("40 at first", x.open(0, 0, 119), 120);
        x.put(0, 1);
        Due.same("41 at first", x.open(0, 0, 119), 0);
        x.tide(11, 80);
        Due.same("39 below, in each tide once", x.open(0, 0, 119), 10);
        x.set(4, 100);
        x.put(0, 2);
        Due.same("100 of 100", x.open(0, 119, 119), 1);
        x.put(0, 3);
        Due.same("101 of 100", x.open(0, 119, 119), 0);
        x.set(4, 0);
        x.tide(11, 40);
        x.put(0, 0);
        Due.same("0 of 0", x.open(0, 119, 119), 1);
        x.put(0, 1);
        Due.same("1 of 0", x.open(0, 119, 119), 0);
        x.tide(11, 42);
        Due.same("1 below of 0", x.open(0, 119, 119), 0);
    }
}
