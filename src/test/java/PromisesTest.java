import java.util.NoSuchElementException;

/** For each promise of the document: ordinary inputs, the edges that it names, wrong inputs. */
public final class PromisesTest {
    private static final int NONE = -1;
    private static final int[] WRONG_NUMBERS = {-1, Integer.MIN_VALUE, Integer.MAX_VALUE};

    private static int wrong = 0;

    public static void main(String[] args) {
        newObject();
        tide();
        set();
        settingsWork();
        tugs();
        ship();
        quay();
        foul();
        arrives();
        count();
        first();
        may();
        put();
        at();
        wrong();
        best();
        bestTies();
        mend();
        mendTies();
        left();
        plan();
        planTies();
        planIsKept();
        in();
        parade();
        minutes();
        open();
        System.out.println(wrong == 0 ? "promises: all as due" : "promises: " + wrong + " not as due");
        if (wrong != 0) {
            System.exit(1);
        }
    }

    private static void due(String what, int got, int want) {
        if (got != want) {
            wrong++;
            System.out.println(what + " answered " + got + ", due is " + want);
        }
    }

    private static void due(String what, boolean got, boolean want) {
        due(what, got ? 1 : 0, want ? 1 : 0);
    }

    private static void dueBerths(String what, TallShips x, int... want) {
        for (int ship = 0; ship < want.length; ship++) {
            due(what + ": at(" + ship + ")", x.at(ship), want[ship]);
        }
    }

    private static void dueHours(String what, TallShips x, int... want) {
        for (int ship = 0; ship < want.length; ship++) {
            due(what + ": in(" + ship + ")", x.in(ship), want[ship]);
        }
    }

    private static boolean atThrows(TallShips x, int ship) {
        try {
            x.at(ship);
            return false;
        } catch (NoSuchElementException e) {
            return true;
        }
    }

    /** A river with a quay of plenty, and small ships of which nothing hinders any. */
    private static TallShips easy(int ships) {
        TallShips x = new TallShips();
        x.quay(4000, 200, false, 1, 30);
        for (int i = 0; i < ships; i++) {
            x.ship(10, 10, 10, 1, 0, 0, 1);
        }
        return x;
    }

    // 1
    private static void newObject() {
        TallShips x = new TallShips();
        due("NONE", TallShips.NONE, -1);
        for (int what = 0; what <= 5; what++) {
            due("new count " + what, x.count(what), 0);
        }
        due("new wrong", x.wrong(), 0);
        due("new best", x.best(), 0);
        due("new mend", x.mend(), 0);
        due("new plan", x.plan(), 0);
        due("new in", x.in(0), NONE);
        due("new parade", x.parade(0), NONE);
        due("new minutes", x.minutes(), 0);
        due("new left", x.left(0), -9999);
        due("new may", x.may(0, 0), NONE);
        due("new first", x.first(0, 0, 0), NONE);
        due("new open", x.open(0, 0, 0), NONE);
        due("new put", x.put(0, NONE), false);
        due("new at throws", atThrows(x, 0), true);
        due("first bar", x.set(0, 40), 40);
        due("first bridge", x.set(1, 500), 500);
        due("first keel", x.set(2, 5), 5);
        due("first gap", x.set(3, 10), 10);
        due("first slope", x.set(4, 40), 40);
        easy(1).put(0, 0);
        due("another object is not touched", x.count(0) + x.count(1), 0);
        due("first tugs are 2", waitOfNeed(2), 0);
        due("first tugs are not 3", waitOfNeed(3), NONE);
    }

    private static int waitOfNeed(int needs) {
        TallShips x = easy(0);
        x.ship(10, 10, 10, 1, needs, 0, 1);
        x.put(0, 0);
        return x.plan();
    }

    // 2
    private static void tide() {
        TallShips x = new TallShips();
        for (int place = 0; place < 12; place++) {
            due("tide " + place, x.tide(place, place + 1), true);
        }
        due("least", x.count(4), 1);
        due("greatest", x.count(5), 12);
        due("tide 80", x.tide(11, 80), true);
        due("tide 0", x.tide(0, 0), true);
        due("tide above", x.tide(3, 81), false);
        due("tide below", x.tide(3, -1), false);
        due("place 12", x.tide(12, 5), false);
        for (int bad : WRONG_NUMBERS) {
            due("place " + bad, x.tide(bad, 5), false);
            due("level " + bad, x.tide(0, bad), false);
        }
        due("least after", x.count(4), 0);
        due("greatest after", x.count(5), 80);
        x.ship(10, 45, 10, 1, 0, 0, 1);
        x.tide(4, 0);
        x.set(0, 42);
        due("hour by 12: level 8 at 7", x.first(0, 0, 0), 7);
        due("again from 12 on", x.first(0, 12, 0), 19);
    }

    // 3
    private static void set() {
        int[] most = {200, 900, 20, 100, 100};
        int[] atFirst = {40, 500, 5, 10, 40};
        TallShips x = new TallShips();
        for (int what = 0; what < 5; what++) {
            due("set most " + what, x.set(what, most[what]), atFirst[what]);
            due("set too much " + what, x.set(what, most[what] + 1), NONE);
            due("set nothing " + what, x.set(what, 0), most[what]);
            for (int bad : WRONG_NUMBERS) {
                due("set " + what + " to " + bad, x.set(what, bad), NONE);
            }
            due("set was not changed " + what, x.set(what, 1), 0);
        }
        for (int what = 0; what < 5; what++) {
            due("each its own " + what, x.set(what, 2), 1);
        }
        due("set 5", x.set(5, 0), NONE);
        for (int bad : WRONG_NUMBERS) {
            due("set what " + bad, x.set(bad, 0), NONE);
        }
    }

    private static void settingsWork() {
        TallShips x = easy(0);
        x.ship(10, 35, 490, 1, 0, 0, 1);
        due("bar 40, keel 5", x.first(0, 0, 0), 0);
        x.set(0, 39);
        due("bar 39", x.first(0, 0, 0), NONE);
        x.set(2, 4);
        due("bar 39, keel 4", x.first(0, 0, 0), 0);
        x.set(1, 494);
        due("bridge 494", x.first(0, 0, 1), 0);
        x.set(1, 493);
        due("bridge 493", x.first(0, 0, 1), NONE);
    }

    // 4
    private static void tugs() {
        TallShips x = easy(0);
        x.ship(10, 10, 10, 1, 3, 0, 1);
        x.put(0, 0);
        due("plan without tugs", x.plan(), NONE);
        due("tugs last hour", x.tugs(119, 119, 3), true);
        due("plan at last hour", x.plan(), 119);
        due("tugs some", x.tugs(50, 60, 9), true);
        due("plan at from", x.plan(), 50);
        due("tugs less", x.tugs(50, 59, 2), true);
        due("plan at to", x.plan(), 60);
        due("tugs 10", x.tugs(0, 5, 10), false);
        due("tugs -1", x.tugs(50, 119, -1), false);
        due("tugs backwards", x.tugs(10, 9, 3), false);
        due("tugs to 120", x.tugs(0, 120, 3), false);
        due("tugs from 120", x.tugs(120, 120, 3), false);
        for (int bad : WRONG_NUMBERS) {
            due("tugs from " + bad, x.tugs(bad, 5, 3), false);
            due("tugs to " + bad, x.tugs(0, bad, 3), false);
            due("tugs v " + bad, x.tugs(0, 1, bad), false);
        }
        due("plan as before", x.plan(), 60);
        due("tugs nil", x.tugs(0, 119, 0), true);
        due("plan without any", x.plan(), NONE);
        due("tugs all", x.tugs(0, 119, 3), true);
        due("plan at once", x.plan(), 0);
    }

    // 5
    private static void ship() {
        int[] least = {1, 1, 1, 0, 0, 0, 1};
        int[] most = {1200, 120, 700, 100, 3, 119, 60};
        TallShips x = new TallShips();
        for (int i = 0; i < 7; i++) {
            dueRefusedShip(x, least, i, least[i] - 1);
            dueRefusedShip(x, least, i, most[i] + 1);
            for (int bad : WRONG_NUMBERS) {
                dueRefusedShip(x, most, i, bad);
            }
        }
        due("no ship yet", x.count(0), 0);
        due("least ship", make(x, least), 0);
        due("most ship", make(x, most), 1);
        for (int i = 2; i < 7; i++) {
            due("ship " + i, make(x, least), i);
        }
        due("an eighth", make(x, least), NONE);
        due("seven", x.count(0), 7);
        due("new ship has no berth", x.at(6), NONE);
        due("new ship has no hour", x.in(6), NONE);
        due("arrives was kept", x.arrives(1, 3), 119);
    }

    private static void dueRefusedShip(TallShips x, int[] with, int i, int v) {
        int[] of = with.clone();
        of[i] = v;
        due("ship with " + v + " as its " + i, make(x, of), NONE);
    }

    private static int make(TallShips x, int[] of) {
        return x.ship(of[0], of[1], of[2], of[3], of[4], of[5], of[6]);
    }

    // 6
    private static void quay() {
        int[] least = {1, 1, 0, 0};
        int[] most = {4000, 200, 10, 120};
        TallShips x = new TallShips();
        for (int i = 0; i < 4; i++) {
            dueRefusedQuay(x, least, i, least[i] - 1);
            dueRefusedQuay(x, least, i, most[i] + 1);
            for (int bad : WRONG_NUMBERS) {
                dueRefusedQuay(x, most, i, bad);
            }
        }
        due("no quay yet", x.count(1), 0);
        due("least quay", makeQuay(x, least), 0);
        due("most quay", makeQuay(x, most), 1);
        due("third", makeQuay(x, least), 2);
        due("fourth", makeQuay(x, least), 3);
        due("a fifth", makeQuay(x, least), NONE);
        due("four", x.count(1), 4);
        due("length 0", x.left(0), 1);
        due("length 1", x.left(1), 4000);
    }

    private static void dueRefusedQuay(TallShips x, int[] with, int i, int v) {
        int[] of = with.clone();
        of[i] = v;
        due("quay with " + v + " as its " + i, makeQuay(x, of), NONE);
    }

    private static int makeQuay(TallShips x, int[] of) {
        return x.quay(of[0], of[1], false, of[2], of[3]);
    }

    // 7
    private static void foul() {
        TallShips x = easy(3);
        x.put(1, 0);
        x.put(2, 0);
        due("foul", x.foul(2, 1, true), true);
        due("both ways", x.wrong(), 21);
        due("foul again", x.foul(1, 2, true), true);
        due("not, the other way", x.foul(1, 2, false), true);
        due("no more", x.wrong(), 0);
        due("not again", x.foul(2, 1, false), true);
        due("one alone", x.foul(1, 1, true), false);
        due("one alone, not", x.foul(1, 1, false), false);
        due("no third", x.foul(1, 3, true), false);
        due("no third ahead", x.foul(3, 1, true), false);
        for (int bad : WRONG_NUMBERS) {
            due("foul " + bad, x.foul(bad, 1, true), false);
            due("foul 1, " + bad, x.foul(1, bad, true), false);
        }
        due("nothing changed", x.wrong(), 0);
        x.foul(0, 1, true);
        x.foul(0, 2, true);
        x.foul(0, 1, false);
        x.put(0, 0);
        due("the other one still fouls", x.wrong(), 20);
    }

    // 8
    private static void arrives() {
        TallShips x = easy(2);
        due("arrives", x.arrives(0, 119), 0);
        due("arrives again", x.arrives(0, 7), 119);
        due("the other", x.arrives(1, 0), 0);
        due("hour 120", x.arrives(0, 120), NONE);
        due("no ship", x.arrives(2, 5), NONE);
        for (int bad : WRONG_NUMBERS) {
            due("hour " + bad, x.arrives(0, bad), NONE);
            due("ship " + bad, x.arrives(bad, 5), NONE);
        }
        x.put(0, 0);
        x.plan();
        due("comes from then on", x.in(0), 7);
        due("was not changed", x.arrives(0, 1), 7);
    }

    // 9
    private static void count() {
        TallShips x = new TallShips();
        x.quay(1000, 100, false, 3, 0);
        x.quay(1000, 100, false, 10, 0);
        x.ship(10, 10, 10, 7, 0, 0, 1);
        x.ship(10, 10, 10, 100, 0, 0, 1);
        x.ship(10, 120, 10, 1, 0, 0, 1);
        due("ships", x.count(0), 3);
        due("quays", x.count(1), 2);
        due("none has a berth", x.count(2), 0);
        due("no show", x.count(3), 0);
        x.put(0, 0);
        x.put(1, 1);
        due("with a berth", x.count(2), 2);
        due("show", x.count(3), 1021);
        x.put(2, 1);
        due("with a berth, good or not", x.count(2), 3);
        due("show, good or not", x.count(3), 1031);
        for (int place = 0; place < 12; place++) {
            x.tide(place, 20 + place);
        }
        due("least", x.count(4), 20);
        due("greatest", x.count(5), 31);
        due("what 6", x.count(6), NONE);
        for (int bad : WRONG_NUMBERS) {
            due("what " + bad, x.count(bad), NONE);
        }
    }

    // 10
    private static void first() {
        TallShips x = new TallShips();
        x.ship(10, 45, 480, 1, 0, 100, 1);
        due("never", x.first(0, 0, 0), NONE);
        x.tide(2, 9);
        due("still never", x.first(0, 0, 0), NONE);
        x.tide(2, 16);
        x.tide(5, 10);
        due("cross", x.first(0, 0, 0), 2);
        due("cross at once", x.first(0, 2, 0), 2);
        due("cross after", x.first(0, 3, 0), 5);
        due("pass needs height", x.first(0, 0, 1), 5);
        due("pass after", x.first(0, 6, 1), 17);
        due("last cross", x.first(0, 113, 0), 113);
        due("after the last", x.first(0, 114, 0), NONE);
        x.tide(11, 10);
        due("hour 119", x.first(0, 114, 0), 119);
        due("hour 119 at once", x.first(0, 119, 1), 119);
        x.tide(5, 16);
        x.tide(11, 16);
        due("never passes", x.first(0, 0, 1), NONE);
        x.set(1, 501);
        due("passes below 501", x.first(0, 0, 1), 2);
        due("hour 120", x.first(0, 120, 0), NONE);
        due("no ship", x.first(1, 0, 0), NONE);
        due("how 2", x.first(0, 0, 2), NONE);
        for (int bad : WRONG_NUMBERS) {
            due("ship " + bad, x.first(bad, 0, 0), NONE);
            due("hour " + bad, x.first(0, bad, 0), NONE);
            due("how " + bad, x.first(0, 0, bad), NONE);
        }
        TallShips low = new TallShips();
        low.ship(10, 36, 10, 1, 0, 0, 1);
        due("to pass is to cross too", low.first(0, 0, 1), NONE);
    }

    // 11
    private static void may() {
        TallShips x = new TallShips();
        x.quay(1, 30, false, 1, 0);
        x.quay(1, 35, true, 1, 0);
        x.ship(1200, 30, 495, 1, 3, 0, 1);
        due("aground", x.may(0, 0), 1);
        due("length and tugs do not matter", x.may(0, 1), 0);
        x.set(1, 499);
        due("under the bridge", x.may(0, 1), 2);
        x.set(1, 500);
        x.set(0, 34);
        due("over the bar", x.may(0, 1), 2);
        due("aground is first", x.may(0, 0), 1);
        for (int place = 0; place < 11; place++) {
            x.tide(place, 5);
        }
        due("least level is one of twelve", x.may(0, 0), 1);
        x.tide(11, 4);
        due("aground by one", x.may(0, 0), 1);
        x.tide(11, 5);
        due("afloat on the least", x.may(0, 0), 0);
        due("too high on all", x.may(0, 1), 2);
        for (int place = 0; place < 12; place++) {
            x.tide(place, 0);
        }
        x.tide(0, 1);
        x.set(2, 0);
        x.set(0, 29);
        due("at some hour", x.may(0, 0), 0);
        x.arrives(0, 108);
        due("until the last", x.may(0, 0), 0);
        x.arrives(0, 109);
        due("too late", x.may(0, 0), 2);
        due("no ship", x.may(1, 0), NONE);
        due("no quay", x.may(0, 2), NONE);
        for (int bad : WRONG_NUMBERS) {
            due("ship " + bad, x.may(bad, 0), NONE);
            due("quay " + bad, x.may(0, bad), NONE);
        }
    }

    // 12
    private static void put() {
        TallShips x = easy(2);
        x.quay(1, 1, true, 1, 0);
        due("put", x.put(0, 0), true);
        due("where it may not lie", x.put(0, 1), true);
        dueBerths("put", x, 1, NONE);
        due("no quay", x.put(0, 2), false);
        due("no ship", x.put(2, 0), false);
        for (int bad : WRONG_NUMBERS) {
            due("ship " + bad, x.put(bad, 0), false);
            if (bad != NONE) {
                due("quay " + bad, x.put(0, bad), false);
            }
        }
        due("quay -2", x.put(0, -2), false);
        dueBerths("put refused", x, 1, NONE);
        due("put away", x.put(0, NONE), true);
        due("put away again", x.put(0, NONE), true);
        dueBerths("put away", x, NONE, NONE);
    }

    // 13
    private static void at() {
        TallShips x = easy(2);
        x.put(1, 0);
        dueBerths("at", x, NONE, 0);
        due("at 2 throws", atThrows(x, 2), true);
        for (int bad : WRONG_NUMBERS) {
            due("at " + bad + " throws", atThrows(x, bad), true);
        }
    }

    // 14
    private static void wrong() {
        TallShips x = new TallShips();
        x.quay(100, 100, false, 1, 0);
        x.quay(100, 10, false, 1, 0);
        x.quay(100, 100, true, 1, 0);
        for (int i = 0; i < 4; i++) {
            x.ship(45, 20, 600, 1, 0, 0, 1);
        }
        due("none lies", x.wrong(), 0);
        x.put(2, 0);
        x.put(3, 0);
        due("just fits", x.wrong(), 0);
        x.set(3, 11);
        due("too short", x.wrong(), 30);
        x.foul(2, 3, true);
        due("fouls before too short", x.wrong(), 22);
        x.put(1, 0);
        due("the first that fouls", x.wrong(), 22);
        x.foul(1, 3, true);
        due("now another", x.wrong(), 21);
        x.put(0, 2);
        due("not under the bridge", x.wrong(), 10);
        x.put(0, NONE);
        x.put(3, 1);
        due("aground before fouls", x.wrong(), 13);
        x.put(1, 2);
        due("the first of them", x.wrong(), 11);
        x.put(1, NONE);
        x.put(3, NONE);
        due("one left", x.wrong(), 0);
        x.foul(1, 0, true);
        x.put(1, 0);
        x.put(0, NONE);
        x.set(3, 10);
        due("fouls one elsewhere only", x.wrong(), 0);
        TallShips y = new TallShips();
        y.quay(100, 100, false, 1, 0);
        y.quay(99, 100, false, 1, 0);
        y.ship(100, 10, 10, 1, 0, 0, 1);
        y.put(0, 1);
        due("the second quay", y.wrong(), 31);
    }

    // 15
    private static void best() {
        TallShips x = new TallShips();
        x.quay(100, 100, false, 2, 0);
        x.quay(210, 100, false, 1, 0);
        x.ship(100, 10, 10, 10, 0, 0, 1);
        x.ship(100, 10, 10, 50, 0, 0, 1);
        x.ship(100, 10, 10, 20, 0, 0, 1);
        due("best", x.best(), 3);
        dueBerths("best", x, 1, 0, 1);
        due("show", x.count(3), 130);
        due("good", x.wrong(), 0);
        x.set(3, 11);
        due("one is left out", x.best(), 2);
        dueBerths("one is left out", x, NONE, 0, 1);
        TallShips y = new TallShips();
        y.quay(100, 100, false, 10, 0);
        y.ship(100, 10, 10, 100, 0, 0, 1);
        y.ship(45, 10, 10, 0, 0, 0, 1);
        y.ship(45, 10, 10, 0, 0, 0, 1);
        due("most ships before show", y.best(), 2);
        dueBerths("most ships before show", y, NONE, 0, 0);
        y.set(3, 11);
        due("show, where as many", y.best(), 1);
        dueBerths("show, where as many", y, 0, NONE, NONE);
    }

    private static void bestTies() {
        TallShips x = new TallShips();
        x.quay(10, 100, false, 0, 0);
        x.quay(10, 100, false, 0, 0);
        x.ship(10, 10, 10, 1, 0, 0, 1);
        x.ship(10, 10, 10, 1, 0, 0, 1);
        x.ship(10, 10, 10, 1, 0, 0, 1);
        due("tie", x.best(), 2);
        dueBerths("less quay for the first, none last", x, 0, 1, NONE);
        x.foul(0, 1, true);
        x.put(0, 1);
        x.put(1, 0);
        due("tie whatever was", x.best(), 2);
        dueBerths("tie whatever was", x, 0, 1, NONE);
        x.ship(1, 120, 10, 100, 0, 0, 1);
        due("that may not lie", x.best(), 2);
        due("that may not lie is at none", x.at(3), NONE);
        TallShips f = easy(3);
        f.foul(0, 1, true);
        f.foul(0, 2, true);
        due("fouls: the two others", f.best(), 2);
        dueBerths("fouls: the two others", f, NONE, 0, 0);
        TallShips no = new TallShips();
        no.ship(1, 1, 1, 1, 0, 0, 1);
        due("no quay", no.best(), 0);
        TallShips all = easy(7);
        due("seven", all.best(), 7);
        TallShips full = new TallShips();
        for (int q = 0; q < 4; q++) {
            full.quay(20, 100, false, q, 0);
        }
        for (int s = 0; s < 7; s++) {
            full.ship(s < 4 ? 20 : 5, 10, 10, s * 10, 0, 0, 1);
        }
        full.set(3, 5);
        due("four quays", full.best(), 5);
        dueBerths("four quays", full, 0, NONE, NONE, 1, 2, 3, 3);
    }

    // 16
    private static void mend() {
        TallShips x = new TallShips();
        x.quay(100, 100, false, 2, 0);
        x.quay(100, 100, false, 1, 0);
        x.quay(100, 100, false, 0, 0);
        x.ship(100, 10, 10, 10, 0, 0, 1);
        x.ship(100, 10, 10, 50, 0, 0, 1);
        x.put(0, 0);
        x.put(1, 1);
        due("good stays, though of less show", x.mend(), 0);
        dueBerths("good stays", x, 0, 1);
        x.ship(100, 10, 10, 5, 0, 0, 1);
        due("from none counts", x.mend(), 1);
        dueBerths("from none", x, 0, 1, 2);
        x.ship(100, 10, 10, 100, 0, 0, 1);
        due("none need move", x.mend(), 0);
        x.put(3, 0);
        due("one must go: of more show it stays", x.mend(), 1);
        dueBerths("one must go", x, NONE, 1, 2, 0);
        x.put(1, NONE);
        due("back again", x.mend(), 1);
        dueBerths("back again: the greater show", x, NONE, 1, 2, 0);
    }

    private static void mendTies() {
        TallShips x = new TallShips();
        x.quay(10, 100, false, 1, 0);
        x.quay(10, 100, false, 1, 0);
        x.quay(10, 100, false, 1, 0);
        x.ship(10, 10, 10, 1, 0, 0, 1);
        x.ship(10, 10, 10, 1, 0, 0, 1);
        x.put(0, 2);
        x.put(1, 2);
        due("one moves", x.mend(), 1);
        dueBerths("the less quay for the first", x, 0, 2);
        TallShips y = new TallShips();
        y.quay(10, 100, false, 1, 0);
        y.quay(20, 100, false, 1, 0);
        y.ship(10, 10, 10, 1, 0, 0, 1);
        y.ship(20, 10, 10, 1, 0, 0, 1);
        y.put(0, 1);
        due("more ships before fewer moved", y.mend(), 2);
        dueBerths("more ships", y, 0, 1);
        TallShips z = easy(1);
        z.put(0, 0);
        z.set(0, 0);
        due("to none counts", z.mend(), 1);
        dueBerths("to none", z, NONE);
        due("nothing more", z.mend(), 0);
    }

    // 17
    private static void left() {
        TallShips x = new TallShips();
        x.quay(100, 1, false, 1, 0);
        x.quay(50, 1, false, 1, 0);
        for (int s = 0; s < 7; s++) {
            x.ship(1200, 10, 10, 1, 0, 0, 1);
        }
        due("empty", x.left(0), 100);
        x.put(3, 0);
        due("one, no gap", x.left(0), -1100);
        x.put(4, 0);
        due("two, one gap", x.left(0), -2310);
        x.put(0, 0);
        due("three, two gaps", x.left(0), -3520);
        due("the other", x.left(1), 50);
        x.set(3, 100);
        for (int s = 0; s < 7; s++) {
            x.put(s, 1);
        }
        due("all", x.left(1), 50 - 8400 - 600);
        due("no quay", x.left(2), -9999);
        for (int bad : WRONG_NUMBERS) {
            due("quay " + bad, x.left(bad), -9999);
        }
    }

    // 18
    private static void plan() {
        TallShips x = easy(7);
        x.best();
        due("an hour each", x.plan(), 21);
        dueHours("an hour each", x, 0, 1, 2, 3, 4, 5, 6);
        for (int s = 0; s < 7; s++) {
            x.arrives(s, 113);
        }
        due("the last seven hours", x.plan(), 21);
        dueHours("the last seven hours", x, 113, 114, 115, 116, 117, 118, 119);
        x.arrives(3, 114);
        x.arrives(6, 119);
        due("later ones", x.plan(), 14);
        for (int s = 0; s < 7; s++) {
            x.arrives(s, 114);
        }
        due("six hours for seven", x.plan(), NONE);
        TallShips above = new TallShips();
        above.quay(100, 100, true, 1, 0);
        above.quay(100, 100, false, 1, 0);
        above.ship(10, 10, 490, 1, 0, 3, 1);
        above.tide(3, 10);
        above.tide(4, 10);
        above.put(0, 0);
        due("it must pass", above.plan(), 2);
        above.put(0, 1);
        due("it need not pass", above.plan(), 0);
        above.tugs(3, 3, 0);
        above.ship(10, 35, 10, 1, 1, 3, 1);
        above.put(1, 0);
        due("only one needs a tug", above.plan(), 1);
        dueHours("only one needs a tug", above, 3, 4);
        above.set(2, 20);
        above.tide(4, 14);
        due("never over the bar", above.plan(), NONE);
        above.tide(4, 15);
        above.put(1, 1);
        due("good or not", above.plan(), 1);
    }

    private static void planTies() {
        TallShips x = easy(3);
        x.best();
        x.tugs(0, 119, 0);
        due("three", x.plan(), 3);
        dueHours("earlier for the first", x, 0, 1, 2);
        TallShips y = easy(1);
        y.ship(10, 10, 10, 1, 1, 0, 1);
        y.best();
        y.tugs(1, 119, 0);
        due("the least sum first", y.plan(), 1);
        dueHours("the least sum first", y, 1, 0);
        TallShips z = new TallShips();
        z.quay(100, 100, false, 1, 0);
        z.ship(10, 10, 10, 1, 0, 5, 1);
        z.ship(10, 10, 10, 1, 0, 4, 1);
        z.ship(10, 10, 10, 1, 0, 4, 1);
        z.best();
        due("a chain", z.plan(), 2);
        dueHours("a chain: the first as early as can be", z, 5, 4, 6);
    }

    private static void planIsKept() {
        TallShips x = easy(2);
        x.best();
        due("plan", x.plan(), 1);
        x.tugs(0, 119, 0);
        x.put(1, NONE);
        x.arrives(0, 50);
        dueHours("kept through changes", x, 0, 1);
        x.set(0, 0);
        due("none is found", x.plan(), NONE);
        dueHours("the old one stays", x, 0, 1);
        x.set(0, 40);
        due("a new one", x.plan(), 0);
        dueHours("a new one", x, 50, NONE);
        x.put(0, NONE);
        due("nobody comes", x.plan(), 0);
        dueHours("nobody comes", x, NONE, NONE);
    }

    // 19
    private static void in() {
        TallShips x = easy(2);
        x.put(1, 0);
        dueHours("no plan yet", x, NONE, NONE);
        x.plan();
        dueHours("one comes", x, NONE, 0);
        x.ship(10, 10, 10, 1, 0, 0, 1);
        due("not in the plan", x.in(2), NONE);
        due("no ship", x.in(3), NONE);
        for (int bad : WRONG_NUMBERS) {
            due("in " + bad, x.in(bad), NONE);
        }
    }

    // 20
    private static TallShips paraders() {
        TallShips x = new TallShips();
        x.quay(1000, 100, false, 1, 0);
        x.ship(10, 10, 10, 5, 0, 0, 3);
        x.ship(10, 10, 10, 9, 0, 0, 1);
        x.ship(10, 10, 10, 5, 0, 0, 60);
        x.ship(10, 10, 10, 100, 0, 0, 7);
        x.ship(10, 10, 10, 0, 0, 0, 2);
        return x;
    }

    private static void parade() {
        TallShips x = paraders();
        due("no berth, no parade", x.parade(0), NONE);
        x.best();
        int[] order = {3, 1, 0, 2, 4};
        for (int i = 0; i < order.length; i++) {
            due("parade " + i, x.parade(i), order[i]);
        }
        due("parade 5", x.parade(5), NONE);
        for (int bad : WRONG_NUMBERS) {
            due("parade " + bad, x.parade(bad), NONE);
        }
        x.put(3, NONE);
        x.put(0, NONE);
        due("without two", x.parade(0), 1);
        due("without two: next", x.parade(1), 2);
        due("without two: last", x.parade(2), 4);
        due("without two: no more", x.parade(3), NONE);
    }

    // 21
    private static void minutes() {
        TallShips x = paraders();
        due("none", x.minutes(), 0);
        x.put(2, 0);
        due("one", x.minutes(), 0);
        x.put(4, 0);
        due("two", x.minutes(), 60);
        x.best();
        due("five", x.minutes(), 7 + 3 + 60 + 60);
        x.put(2, NONE);
        due("four", x.minutes(), 7 + 3 + 3);
        TallShips all = new TallShips();
        all.quay(1000, 100, false, 1, 0);
        for (int s = 0; s < 7; s++) {
            all.ship(10, 10, 10, s, 0, 0, s + 1);
        }
        all.best();
        due("seven", all.minutes(), 7 + 6 + 5 + 4 + 3 + 2);
    }

    // 22
    private static void open() {
        TallShips x = new TallShips();
        x.quay(100, 1, false, 1, 70);
        x.quay(100, 1, false, 1, 0);
        x.ship(10, 10, 10, 1, 0, 50, 1);
        due("no berth", x.open(0, 0, 11), NONE);
        x.put(0, 0);
        due("40 is not steep", x.open(0, 0, 119), 120);
        x.set(4, 39);
        due("40 is steep above 39", x.open(0, 0, 119), 0);
        x.tide(5, 1);
        x.tide(6, 80);
        x.tide(7, 79);
        due("one of twelve, and one below", x.open(0, 0, 11), 2);
        due("from is in", x.open(0, 5, 5), 1);
        due("to is in", x.open(0, 4, 5), 1);
        due("40 below is steep", x.open(0, 6, 6), 0);
        due("39 below is not", x.open(0, 7, 7), 1);
        due("ten days", x.open(0, 0, 119), 20);
        x.put(0, 1);
        due("another quay", x.open(0, 0, 11), 10);
        due("backwards", x.open(0, 6, 5), NONE);
        due("to 120", x.open(0, 0, 120), NONE);
        due("from 120", x.open(0, 120, 120), NONE);
        due("no ship", x.open(1, 0, 11), NONE);
        for (int bad : WRONG_NUMBERS) {
            due("ship " + bad, x.open(bad, 0, 11), NONE);
            due("from " + bad, x.open(0, bad, 11), NONE);
            due("to " + bad, x.open(0, 0, bad), NONE);
        }
    }
}
