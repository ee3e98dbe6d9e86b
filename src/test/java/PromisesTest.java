/** For each promise of the document: ordinary inputs, the edges that it names, wrong inputs. */
public final class PromisesTest {
    private static final int NONE = -1;
    private static final int[] WRONG_NUMBERS = {-1, Integer.MIN_VALUE, Integer.MAX_VALUE};

    public static void main(String[] args) {
        newObject();
        tide();
        set();
        settingsWork();
        tugs();
        ship();
        quay();
        foul();
        arrives();
        count();
        first();
        may();
        put();
        at();
        wrong();
        best();
        bestTies();
        mend();
        mendTies();
        left();
        plan();
        planTies();
        planIsKept();
        in();
        parade();
        minutes();
        open();
        Due.end("promises");
    }

    // 1
    private static void newObject() {
        TallShips x = new TallShips();
        Due.same("NONE", TallShips.NONE, -1);
        for (int what = 0; what <= 5; what++) {
            Due.same("new count " + what, x.count(what), 0);
        }
        Due.same("new wrong", x.wrong(), 0);
        Due.same("new best", x.best(), 0);
        Due.same("new mend", x.mend(), 0);
        Due.same("new plan", x.plan(), 0);
        Due.same("new in", x.in(0), NONE);
        Due.same("new parade", x.parade(0), NONE);
        Due.same("new minutes", x.minutes(), 0);
        Due.same("new left", x.left(0), -9999);
        Due.same("new may", x.may(0, 0), NONE);
        Due.same("new first", x.first(0, 0, 0), NONE);
        Due.same("new open", x.open(0, 0, 0), NONE);
        Due.same("new put", x.put(0, NONE), false);
        Due.same("new at throws", Due.at(x, 0), Due.THROWN);
        Due.same("first bar", x.set(0, 40), 40);
        Due.same("first bridge", x.set(1, 500), 500);
        Due.same("first keel", x.set(2, 5), 5);
        Due.same("first gap", x.set(3, 10), 10);
        Due.same("first slope", x.set(4, 40), 40);
        Scenes.easy(1).put(0, 0);
        Due.same("another object is not touched", x.count(0) + x.count(1), 0);
        Due.same("first tugs are 2", waitOfNeed(2), 0);
        Due.same("first tugs are not 3", waitOfNeed(3), NONE);
    }

    private static int waitOfNeed(int needs) {
        TallShips x = Scenes.easy(0);
        x.ship(10, 10, 10, 1, needs, 0, 1);
        x.put(0, 0);
        return x.plan();
    }

    // 2
    private static void tide() {
        TallShips x = new TallShips();
        for (int place = 0; place < 12; place++) {
            Due.same("tide " + place, x.tide(place, place + 1), true);
        }
        Due.same("least", x.count(4), 1);
        Due.same("greatest", x.count(5), 12);
        Due.same("tide 80", x.tide(11, 80), true);
        Due.same("tide 0", x.tide(0, 0), true);
        Due.same("tide above", x.tide(3, 81), false);
        Due.same("tide below", x.tide(3, -1), false);
        Due.same("place 12", x.tide(12, 5), false);
        for (int bad : WRONG_NUMBERS) {
            Due.same("place " + bad, x.tide(bad, 5), false);
            Due.same("level " + bad, x.tide(0, bad), false);
        }
        Due.same("least after", x.count(4), 0);
        Due.same("greatest after", x.count(5), 80);
        x.ship(10, 45, 10, 1, 0, 0, 1);
        x.tide(4, 0);
        x.set(0, 42);
        Due.same("hour by 12: level 8 at 7", x.first(0, 0, 0), 7);
        Due.same("again from 12 on", x.first(0, 12, 0), 19);
    }

    // 3
    private static void set() {
        int[] most = {200, 900, 20, 100, 100};
        int[] atFirst = {40, 500, 5, 10, 40};
        TallShips x = new TallShips();
        for (int what = 0; what < 5; what++) {
            Due.same("set most " + what, x.set(what, most[what]), atFirst[what]);
            Due.same("set too much " + what, x.set(what, most[what] + 1), NONE);
            Due.same("set nothing " + what, x.set(what, 0), most[what]);
            for (int bad : WRONG_NUMBERS) {
                Due.same("set " + what + " to " + bad, x.set(what, bad), NONE);
            }
            Due.same("set was not changed " + what, x.set(what, 1), 0);
        }
        for (int what = 0; what < 5; what++) {
            Due.same("each its own " + what, x.set(what, 2), 1);
        }
        Due.same("set 5", x.set(5, 0), NONE);
        for (int bad : WRONG_NUMBERS) {
            Due.same("set what " + bad, x.set(bad, 0), NONE);
        }
    }

    private static void settingsWork() {
        TallShips x = Scenes.easy(0);
        x.ship(10, 35, 490, 1, 0, 0, 1);
        Due.same("bar 40, keel 5", x.first(0, 0, 0), 0);
        x.set(0, 39);
        Due.same("bar 39", x.first(0, 0, 0), NONE);
        x.set(2, 4);
        Due.same("bar 39, keel 4", x.first(0, 0, 0), 0);
        x.set(1, 494);
        Due.same("bridge 494", x.first(0, 0, 1), 0);
        x.set(1, 493);
        Due.same("bridge 493", x.first(0, 0, 1), NONE);
    }

    // 4
    private static void tugs() {
        TallShips x = Scenes.easy(0);
        x.ship(10, 10, 10, 1, 3, 0, 1);
        x.put(0, 0);
        Due.same("plan without tugs", x.plan(), NONE);
        Due.same("tugs last hour", x.tugs(119, 119, 3), true);
        Due.same("plan at last hour", x.plan(), 119);
        Due.same("tugs some", x.tugs(50, 60, 9), true);
        Due.same("plan at from", x.plan(), 50);
        Due.same("tugs less", x.tugs(50, 59, 2), true);
        Due.same("plan at to", x.plan(), 60);
        Due.same("tugs 10", x.tugs(0, 5, 10), false);
        Due.same("tugs -1", x.tugs(50, 119, -1), false);
        Due.same("tugs backwards", x.tugs(10, 9, 3), false);
        Due.same("tugs to 120", x.tugs(0, 120, 3), false);
        Due.same("tugs from 120", x.tugs(120, 120, 3), false);
        for (int bad : WRONG_NUMBERS) {
            Due.same("tugs from " + bad, x.tugs(bad, 5, 3), false);
            Due.same("tugs to " + bad, x.tugs(0, bad, 3), false);
            Due.same("tugs v " + bad, x.tugs(0, 1, bad), false);
        }
        Due.same("plan as before", x.plan(), 60);
        Due.same("tugs nil", x.tugs(0, 119, 0), true);
        Due.same("plan without any", x.plan(), NONE);
        Due.same("tugs all", x.tugs(0, 119, 3), true);
        Due.same("plan at once", x.plan(), 0);
    }

    // 5
    private static void ship() {
        int[] least = {1, 1, 1, 0, 0, 0, 1};
        int[] most = {1200, 120, 700, 100, 3, 119, 60};
        TallShips x = new TallShips();
        for (int i = 0; i < 7; i++) {
            dueRefusedShip(x, least, i, least[i] - 1);
            dueRefusedShip(x, least, i, most[i] + 1);
            for (int bad : WRONG_NUMBERS) {
                dueRefusedShip(x, most, i, bad);
            }
        }
        Due.same("no ship yet", x.count(0), 0);
        Due.same("least ship", Scenes.ship(x, least), 0);
        Due.same("most ship", Scenes.ship(x, most), 1);
        for (int i = 2; i < 7; i++) {
            Due.same("ship " + i, Scenes.ship(x, least), i);
        }
        Due.same("an eighth", Scenes.ship(x, least), NONE);
        Due.same("seven", x.count(0), 7);
        Due.same("new ship has no berth", x.at(6), NONE);
        Due.same("new ship has no hour", x.in(6), NONE);
        Due.same("arrives was kept", x.arrives(1, 3), 119);
    }

    private static void dueRefusedShip(TallShips x, int[] with, int i, int v) {
        int[] of = with.clone();
        of[i] = v;
        Due.same("ship with " + v + " as its " + i, Scenes.ship(x, of), NONE);
    }

    // 6
    private static void quay() {
        int[] least = {1, 1, 0, 0};
        int[] most = {4000, 200, 10, 120};
        TallShips x = new TallShips();
        for (int i = 0; i < 4; i++) {
            dueRefusedQuay(x, least, i, least[i] - 1);
            dueRefusedQuay(x, least, i, most[i] + 1);
            for (int bad : WRONG_NUMBERS) {
                dueRefusedQuay(x, most, i, bad);
            }
        }
        Due.same("no quay yet", x.count(1), 0);
        Due.same("least quay", makeQuay(x, least), 0);
        Due.same("most quay", makeQuay(x, most), 1);
        Due.same("third", makeQuay(x, least), 2);
        Due.same("fourth", makeQuay(x, least), 3);
        Due.same("a fifth", makeQuay(x, least), NONE);
        Due.same("four", x.count(1), 4);
        Due.same("length 0", x.left(0), 1);
        Due.same("length 1", x.left(1), 4000);
    }

    private static void dueRefusedQuay(TallShips x, int[] with, int i, int v) {
        int[] of = with.clone();
        of[i] = v;
        Due.same("quay with " + v + " as its " + i, makeQuay(x, of), NONE);
    }

    private static int makeQuay(TallShips x, int[] of) {
        return x.quay(of[0], of[1], false, of[2], of[3]);
    }

    // 7
    private static void foul() {
        TallShips x = Scenes.easy(3);
        x.put(1, 0);
        x.put(2, 0);
        Due.same("foul", x.foul(2, 1, true), true);
        Due.same("both ways", x.wrong(), 21);
        Due.same("foul again", x.foul(1, 2, true), true);
        Due.same("not, the other way", x.foul(1, 2, false), true);
        Due.same("no more", x.wrong(), 0);
        Due.same("not again", x.foul(2, 1, false), true);
        Due.same("one alone", x.foul(1, 1, true), false);
        Due.same("one alone, not", x.foul(1, 1, false), false);
        Due.same("no third", x.foul(1, 3, true), false);
        Due.same("no third ahead", x.foul(3, 1, true), false);
        for (int bad : WRONG_NUMBERS) {
            Due.same("foul " + bad, x.foul(bad, 1, true), false);
            Due.same("foul 1, " + bad, x.foul(1, bad, true), false);
        }
        Due.same("nothing changed", x.wrong(), 0);
        x.foul(0, 1, true);
        x.foul(0, 2, true);
        x.foul(0, 1, false);
        x.put(0, 0);
        Due.same("the other one still fouls", x.wrong(), 20);
    }

    // 8
    private static void arrives() {
        TallShips x = Scenes.easy(2);
        Due.same("arrives", x.arrives(0, 119), 0);
        Due.same("arrives again", x.arrives(0, 7), 119);
        Due.same("the other", x.arrives(1, 0), 0);
        Due.same("hour 120", x.arrives(0, 120), NONE);
        Due.same("no ship", x.arrives(2, 5), NONE);
        for (int bad : WRONG_NUMBERS) {
            Due.same("hour " + bad, x.arrives(0, bad), NONE);
            Due.same("ship " + bad, x.arrives(bad, 5), NONE);
        }
        x.put(0, 0);
        x.plan();
        Due.same("comes from then on", x.in(0), 7);
        Due.same("was not changed", x.arrives(0, 1), 7);
    }

    // 9
    private static void count() {
        TallShips x = new TallShips();
        x.quay(1000, 100, false, 3, 0);
        x.quay(1000, 100, false, 10, 0);
        x.ship(10, 10, 10, 7, 0, 0, 1);
        x.ship(10, 10, 10, 100, 0, 0, 1);
        x.ship(10, 120, 10, 1, 0, 0, 1);
        Due.same("ships", x.count(0), 3);
        Due.same("quays", x.count(1), 2);
        Due.same("none has a berth", x.count(2), 0);
        Due.same("no show", x.count(3), 0);
        x.put(0, 0);
        x.put(1, 1);
        Due.same("with a berth", x.count(2), 2);
        Due.same("show", x.count(3), 1021);
        x.put(2, 1);
        Due.same("with a berth, good or not", x.count(2), 3);
        Due.same("show, good or not", x.count(3), 1031);
        for (int place = 0; place < 12; place++) {
            x.tide(place, 20 + place);
        }
        Due.same("least", x.count(4), 20);
        Due.same("greatest", x.count(5), 31);
        Due.same("what 6", x.count(6), NONE);
        for (int bad : WRONG_NUMBERS) {
            Due.same("what " + bad, x.count(bad), NONE);
        }
    }

    // 10
    private static void first() {
        TallShips x = new TallShips();
        x.ship(10, 45, 480, 1, 0, 100, 1);
        Due.same("never", x.first(0, 0, 0), NONE);
        x.tide(2, 9);
        Due.same("still never", x.first(0, 0, 0), NONE);
        x.tide(2, 16);
        x.tide(5, 10);
        Due.same("cross", x.first(0, 0, 0), 2);
        Due.same("cross at once", x.first(0, 2, 0), 2);
        Due.same("cross after", x.first(0, 3, 0), 5);
        Due.same("pass needs height", x.first(0, 0, 1), 5);
        Due.same("pass after", x.first(0, 6, 1), 17);
        Due.same("last cross", x.first(0, 113, 0), 113);
        Due.same("after the last", x.first(0, 114, 0), NONE);
        x.tide(11, 10);
        Due.same("hour 119", x.first(0, 114, 0), 119);
        Due.same("hour 119 at once", x.first(0, 119, 1), 119);
        x.tide(5, 16);
        x.tide(11, 16);
        Due.same("never passes", x.first(0, 0, 1), NONE);
        x.set(1, 501);
        Due.same("passes below 501", x.first(0, 0, 1), 2);
        Due.same("hour 120", x.first(0, 120, 0), NONE);
        Due.same("no ship", x.first(1, 0, 0), NONE);
        Due.same("how 2", x.first(0, 0, 2), NONE);
        for (int bad : WRONG_NUMBERS) {
            Due.same("ship " + bad, x.first(bad, 0, 0), NONE);
            Due.same("hour " + bad, x.first(0, bad, 0), NONE);
            Due.same("how " + bad, x.first(0, 0, bad), NONE);
        }
        TallShips low = new TallShips();
        low.ship(10, 36, 10, 1, 0, 0, 1);
        Due.same("to pass is to cross too", low.first(0, 0, 1), NONE);
    }

    // 11
    private static void may() {
        TallShips x = new TallShips();
        x.quay(1, 30, false, 1, 0);
        x.quay(1, 35, true, 1, 0);
        x.ship(1200, 30, 495, 1, 3, 0, 1);
        Due.same("aground", x.may(0, 0), 1);
        Due.same("length and tugs do not matter", x.may(0, 1), 0);
        x.set(1, 499);
        Due.same("under the bridge", x.may(0, 1), 2);
        x.set(1, 500);
        x.set(0, 34);
        Due.same("over the bar", x.may(0, 1), 2);
        Due.same("aground is first", x.may(0, 0), 1);
        for (int place = 0; place < 11; place++) {
            x.tide(place, 5);
        }
        Due.same("least level is one of twelve", x.may(0, 0), 1);
        x.tide(11, 4);
        Due.same("aground by one", x.may(0, 0), 1);
        x.tide(11, 5);
        Due.same("afloat on the least", x.may(0, 0), 0);
        Due.same("too high on all", x.may(0, 1), 2);
        for (int place = 0; place < 12; place++) {
            x.tide(place, 0);
        }
        x.tide(0, 1);
        x.set(2, 0);
        x.set(0, 29);
        Due.same("at some hour", x.may(0, 0), 0);
        x.arrives(0, 108);
        Due.same("until the last", x.may(0, 0), 0);
        x.arrives(0, 109);
        Due.same("too late", x.may(0, 0), 2);
        Due.same("no ship", x.may(1, 0), NONE);
        Due.same("no quay", x.may(0, 2), NONE);
        for (int bad : WRONG_NUMBERS) {
            Due.same("ship " + bad, x.may(bad, 0), NONE);
            Due.same("quay " + bad, x.may(0, bad), NONE);
        }
    }

    // 12
    private static void put() {
        TallShips x = Scenes.easy(2);
        x.quay(1, 1, true, 1, 0);
        Due.same("put", x.put(0, 0), true);
        Due.same("where it may not lie", x.put(0, 1), true);
        Due.berths("put", x, 1, NONE);
        Due.same("no quay", x.put(0, 2), false);
        Due.same("no ship", x.put(2, 0), false);
        for (int bad : WRONG_NUMBERS) {
            Due.same("ship " + bad, x.put(bad, 0), false);
            if (bad != NONE) {
                Due.same("quay " + bad, x.put(0, bad), false);
            }
        }
        Due.same("quay -2", x.put(0, -2), false);
        Due.berths("put refused", x, 1, NONE);
        Due.same("put away", x.put(0, NONE), true);
        Due.same("put away again", x.put(0, NONE), true);
        Due.berths("put away", x, NONE, NONE);
    }

    // 13
    private static void at() {
        TallShips x = Scenes.easy(2);
        x.put(1, 0);
        Due.berths("at", x, NONE, 0);
        Due.same("at 2 throws", Due.at(x, 2), Due.THROWN);
        for (int bad : WRONG_NUMBERS) {
            Due.same("at " + bad + " throws", Due.at(x, bad), Due.THROWN);
        }
    }

    // 14
    private static void wrong() {
        TallShips x = new TallShips();
        x.quay(100, 100, false, 1, 0);
        x.quay(100, 10, false, 1, 0);
        x.quay(100, 100, true, 1, 0);
        for (int i = 0; i < 4; i++) {
            x.ship(45, 20, 600, 1, 0, 0, 1);
        }
        Due.same("none lies", x.wrong(), 0);
        x.put(2, 0);
        x.put(3, 0);
        Due.same("just fits", x.wrong(), 0);
        x.set(3, 11);
        Due.same("too short", x.wrong(), 30);
        x.foul(2, 3, true);
        Due.same("fouls before too short", x.wrong(), 22);
        x.put(1, 0);
        Due.same("the first that fouls", x.wrong(), 22);
        x.foul(1, 3, true);
        Due.same("now another", x.wrong(), 21);
        x.put(0, 2);
        Due.same("not under the bridge", x.wrong(), 10);
        x.put(0, NONE);
        x.put(3, 1);
        Due.same("aground before fouls", x.wrong(), 13);
        x.put(1, 2);
        Due.same("the first of them", x.wrong(), 11);
        x.put(1, NONE);
        x.put(3, NONE);
        Due.same("one left", x.wrong(), 0);
        x.foul(1, 0, true);
        x.put(1, 0);
        x.put(0, NONE);
        x.set(3, 10);
        Due.same("fouls one elsewhere only", x.wrong(), 0);
        TallShips y = new TallShips();
        y.quay(100, 100, false, 1, 0);
        y.quay(99, 100, false, 1, 0);
        y.ship(100, 10, 10, 1, 0, 0, 1);
        y.put(0, 1);
        Due.same("the second quay", y.wrong(), 31);
    }

    // 15
    private static void best() {
        TallShips x = new TallShips();
        x.quay(100, 100, false, 2, 0);
        x.quay(210, 100, false, 1, 0);
        x.ship(100, 10, 10, 10, 0, 0, 1);
        x.ship(100, 10, 10, 50, 0, 0, 1);
        x.ship(100, 10, 10, 20, 0, 0, 1);
        Due.same("best", x.best(), 3);
        Due.berths("best", x, 1, 0, 1);
        Due.same("show", x.count(3), 130);
        Due.same("good", x.wrong(), 0);
        x.set(3, 11);
        Due.same("one is left out", x.best(), 2);
        Due.berths("one is left out", x, NONE, 0, 1);
        TallShips y = new TallShips();
        y.quay(100, 100, false, 10, 0);
        y.ship(100, 10, 10, 100, 0, 0, 1);
        y.ship(45, 10, 10, 0, 0, 0, 1);
        y.ship(45, 10, 10, 0, 0, 0, 1);
        Due.same("most ships before show", y.best(), 2);
        Due.berths("most ships before show", y, NONE, 0, 0);
        y.set(3, 11);
        Due.same("show, where as many", y.best(), 1);
        Due.berths("show, where as many", y, 0, NONE, NONE);
    }

    private static void bestTies() {
        TallShips x = new TallShips();
        x.quay(10, 100, false, 0, 0);
        x.quay(10, 100, false, 0, 0);
        x.ship(10, 10, 10, 1, 0, 0, 1);
        x.ship(10, 10, 10, 1, 0, 0, 1);
        x.ship(10, 10, 10, 1, 0, 0, 1);
        Due.same("tie", x.best(), 2);
        Due.berths("less quay for the first, none last", x, 0, 1, NONE);
        x.foul(0, 1, true);
        x.put(0, 1);
        x.put(1, 0);
        Due.same("tie whatever was", x.best(), 2);
        Due.berths("tie whatever was", x, 0, 1, NONE);
        x.ship(1, 120, 10, 100, 0, 0, 1);
        Due.same("that may not lie", x.best(), 2);
        Due.same("that may not lie is at none", x.at(3), NONE);
        TallShips f = Scenes.easy(3);
        f.foul(0, 1, true);
        f.foul(0, 2, true);
        Due.same("fouls: the two others", f.best(), 2);
        Due.berths("fouls: the two others", f, NONE, 0, 0);
        TallShips no = new TallShips();
        no.ship(1, 1, 1, 1, 0, 0, 1);
        Due.same("no quay", no.best(), 0);
        TallShips all = Scenes.easy(7);
        Due.same("seven", all.best(), 7);
        TallShips full = new TallShips();
        for (int q = 0; q < 4; q++) {
            full.quay(20, 100, false, q, 0);
        }
        for (int s = 0; s < 7; s++) {
            full.ship(s < 4 ? 20 : 5, 10, 10, s * 10, 0, 0, 1);
        }
        full.set(3, 5);
        Due.same("four quays", full.best(), 5);
        Due.berths("four quays", full, 0, NONE, NONE, 1, 2, 3, 3);
    }

    // 16
    private static void mend() {
        TallShips x = new TallShips();
        x.quay(100, 100, false, 2, 0);
        x.quay(100, 100, false, 1, 0);
        x.quay(100, 100, false, 0, 0);
        x.ship(100, 10, 10, 10, 0, 0, 1);
        x.ship(100, 10, 10, 50, 0, 0, 1);
        x.put(0, 0);
        x.put(1, 1);
        Due.same("good stays, though of less show", x.mend(), 0);
        Due.berths("good stays", x, 0, 1);
        x.ship(100, 10, 10, 5, 0, 0, 1);
        Due.same("from none counts", x.mend(), 1);
        Due.berths("from none", x, 0, 1, 2);
        x.ship(100, 10, 10, 100, 0, 0, 1);
        Due.same("none need move", x.mend(), 0);
        x.put(3, 0);
        Due.same("one must go: of more show it stays", x.mend(), 1);
        Due.berths("one must go", x, NONE, 1, 2, 0);
        x.put(1, NONE);
        Due.same("back again", x.mend(), 1);
        Due.berths("back again: the greater show", x, NONE, 1, 2, 0);
    }

    private static void mendTies() {
        TallShips x = new TallShips();
        x.quay(10, 100, false, 1, 0);
        x.quay(10, 100, false, 1, 0);
        x.quay(10, 100, false, 1, 0);
        x.ship(10, 10, 10, 1, 0, 0, 1);
        x.ship(10, 10, 10, 1, 0, 0, 1);
        x.put(0, 2);
        x.put(1, 2);
        Due.same("one moves", x.mend(), 1);
        Due.berths("the less quay for the first", x, 0, 2);
        TallShips y = new TallShips();
        y.quay(10, 100, false, 1, 0);
        y.quay(20, 100, false, 1, 0);
        y.ship(10, 10, 10, 1, 0, 0, 1);
        y.ship(20, 10, 10, 1, 0, 0, 1);
        y.put(0, 1);
        Due.same("more ships before fewer moved", y.mend(), 2);
        Due.berths("more ships", y, 0, 1);
        TallShips z = Scenes.easy(1);
        z.put(0, 0);
        z.set(0, 0);
        Due.same("to none counts", z.mend(), 1);
        Due.berths("to none", z, NONE);
        Due.same("nothing more", z.mend(), 0);
    }

    // 17
    private static void left() {
        TallShips x = new TallShips();
        x.quay(100, 1, false, 1, 0);
        x.quay(50, 1, false, 1, 0);
        for (int s = 0; s < 7; s++) {
            x.ship(1200, 10, 10, 1, 0, 0, 1);
        }
        Due.same("empty", x.left(0), 100);
        x.put(3, 0);
        Due.same("one, no gap", x.left(0), -1100);
        x.put(4, 0);
        Due.same("two, one gap", x.left(0), -2310);
        x.put(0, 0);
        Due.same("three, two gaps", x.left(0), -3520);
        Due.same("the other", x.left(1), 50);
        x.set(3, 100);
        for (int s = 0; s < 7; s++) {
            x.put(s, 1);
        }
        Due.same("all", x.left(1), 50 - 8400 - 600);
        Due.same("no quay", x.left(2), -9999);
        for (int bad : WRONG_NUMBERS) {
            Due.same("quay " + bad, x.left(bad), -9999);
        }
    }

    // 18
    private static void plan() {
        TallShips x = Scenes.easy(7);
        x.best();
        Due.same("an hour each", x.plan(), 21);
        Due.hours("an hour each", x, 0, 1, 2, 3, 4, 5, 6);
        for (int s = 0; s < 7; s++) {
            x.arrives(s, 113);
        }
        Due.same("the last seven hours", x.plan(), 21);
        Due.hours("the last seven hours", x, 113, 114, 115, 116, 117, 118, 119);
        x.arrives(3, 114);
        x.arrives(6, 119);
        Due.same("later ones", x.plan(), 14);
        for (int s = 0; s < 7; s++) {
            x.arrives(s, 114);
        }
        Due.same("six hours for seven", x.plan(), NONE);
        TallShips above = new TallShips();
        above.quay(100, 100, true, 1, 0);
        above.quay(100, 100, false, 1, 0);
        above.ship(10, 10, 490, 1, 0, 3, 1);
        above.tide(3, 10);
        above.tide(4, 10);
        above.put(0, 0);
        Due.same("it must pass", above.plan(), 2);
        above.put(0, 1);
        Due.same("it need not pass", above.plan(), 0);
        above.tugs(3, 3, 0);
        above.ship(10, 35, 10, 1, 1, 3, 1);
        above.put(1, 0);
        Due.same("only one needs a tug", above.plan(), 1);
        Due.hours("only one needs a tug", above, 3, 4);
        above.set(2, 20);
        above.tide(4, 14);
        Due.same("never over the bar", above.plan(), NONE);
        above.tide(4, 15);
        above.put(1, 1);
        Due.same("good or not", above.plan(), 1);
    }

    private static void planTies() {
        TallShips x = Scenes.easy(3);
        x.best();
        x.tugs(0, 119, 0);
        Due.same("three", x.plan(), 3);
        Due.hours("earlier for the first", x, 0, 1, 2);
        TallShips y = Scenes.easy(1);
        y.ship(10, 10, 10, 1, 1, 0, 1);
        y.best();
        y.tugs(1, 119, 0);
        Due.same("the least sum first", y.plan(), 1);
        Due.hours("the least sum first", y, 1, 0);
        TallShips z = new TallShips();
        z.quay(100, 100, false, 1, 0);
        z.ship(10, 10, 10, 1, 0, 5, 1);
        z.ship(10, 10, 10, 1, 0, 4, 1);
        z.ship(10, 10, 10, 1, 0, 4, 1);
        z.best();
        Due.same("a chain", z.plan(), 2);
        Due.hours("a chain: the first as early as can be", z, 5, 4, 6);
    }

    private static void planIsKept() {
        TallShips x = Scenes.easy(2);
        x.best();
        Due.same("plan", x.plan(), 1);
        x.tugs(0, 119, 0);
        x.put(1, NONE);
        x.arrives(0, 50);
        Due.hours("kept through changes", x, 0, 1);
        x.set(0, 0);
        Due.same("none is found", x.plan(), NONE);
        Due.hours("the old one stays", x, 0, 1);
        x.set(0, 40);
        Due.same("a new one", x.plan(), 0);
        Due.hours("a new one", x, 50, NONE);
        x.put(0, NONE);
        Due.same("nobody comes", x.plan(), 0);
        Due.hours("nobody comes", x, NONE, NONE);
    }

    // 19
    private static void in() {
        TallShips x = Scenes.easy(2);
        x.put(1, 0);
        Due.hours("no plan yet", x, NONE, NONE);
        x.plan();
        Due.hours("one comes", x, NONE, 0);
        x.ship(10, 10, 10, 1, 0, 0, 1);
        Due.same("not in the plan", x.in(2), NONE);
        Due.same("no ship", x.in(3), NONE);
        for (int bad : WRONG_NUMBERS) {
            Due.same("in " + bad, x.in(bad), NONE);
        }
    }

    // 20
    private static TallShips paraders() {
        TallShips x = new TallShips();
        x.quay(1000, 100, false, 1, 0);
        x.ship(10, 10, 10, 5, 0, 0, 3);
        x.ship(10, 10, 10, 9, 0, 0, 1);
        x.ship(10, 10, 10, 5, 0, 0, 60);
        x.ship(10, 10, 10, 100, 0, 0, 7);
        x.ship(10, 10, 10, 0, 0, 0, 2);
        return x;
    }

    private static void parade() {
        TallShips x = paraders();
        Due.same("no berth, no parade", x.parade(0), NONE);
        x.best();
        int[] order = {3, 1, 0, 2, 4};
        for (int i = 0; i < order.length; i++) {
            Due.same("parade " + i, x.parade(i), order[i]);
        }
        Due.same("parade 5", x.parade(5), NONE);
        for (int bad : WRONG_NUMBERS) {
            Due.same("parade " + bad, x.parade(bad), NONE);
        }
        x.put(3, NONE);
        x.put(0, NONE);
        Due.same("without two", x.parade(0), 1);
        Due.same("without two: next", x.parade(1), 2);
        Due.same("without two: last", x.parade(2), 4);
        Due.same("without two: no more", x.parade(3), NONE);
    }

    // 21
    private static void minutes() {
        TallShips x = paraders();
        Due.same("none", x.minutes(), 0);
        x.put(2, 0);
        Due.same("one", x.minutes(), 0);
        x.put(4, 0);
        Due.same("two", x.minutes(), 60);
        x.best();
        Due.same("five", x.minutes(), 7 + 3 + 60 + 60);
        x.put(2, NONE);
        Due.same("four", x.minutes(), 7 + 3 + 3);
        TallShips all = new TallShips();
        all.quay(1000, 100, false, 1, 0);
        for (int s = 0; s < 7; s++) {
            all.ship(10, 10, 10, s, 0, 0, s + 1);
        }
        all.best();
        Due.same("seven", all.minutes(), 7 + 6 + 5 + 4 + 3 + 2);
    }

    // 22
    private static void open() {
        TallShips x = new TallShips();
        x.quay(100, 1, false, 1, 70);
        x.quay(100, 1, false, 1, 0);
        x.ship(10, 10, 10, 1, 0, 50, 1);
        Due.same("no berth", x.open(0, 0, 11), NONE);
        x.put(0, 0);
        Due.same("40 is not steep", x.open(0, 0, 119), 120);
        x.set(4, 39);
        Due.same("40 is steep above 39", x.open(0, 0, 119), 0);
        x.tide(5, 1);
        x.tide(6, 80);
        x.tide(7, 79);
        Due.same("one of twelve, and one below", x.open(0, 0, 11), 2);
        Due.same("from is in", x.open(0, 5, 5), 1);
        Due.same("to is in", x.open(0, 4, 5), 1);
        Due.same("40 below is steep", x.open(0, 6, 6), 0);
        Due.same("39 below is not", x.open(0, 7, 7), 1);
        Due.same("ten days", x.open(0, 0, 119), 20);
        x.put(0, 1);
        Due.same("another quay", x.open(0, 0, 11), 10);
        Due.same("backwards", x.open(0, 6, 5), NONE);
        Due.same("to 120", x.open(0, 0, 120), NONE);
        Due.same("from 120", x.open(0, 120, 120), NONE);
        Due.same("no ship", x.open(1, 0, 11), NONE);
        for (int bad : WRONG_NUMBERS) {
            Due.same("ship " + bad, x.open(bad, 0, 11), NONE);
            Due.same("from " + bad, x.open(0, bad, 11), NONE);
            Due.same("to " + bad, x.open(0, 0, bad), NONE);
        }
    }
}
