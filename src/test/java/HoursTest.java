/** "HOURS 0 .. 119. TIDE: twelve levels .., that of an HOUR the one at HOUR by 12": every hour, in every call that has hours. */
public final class HoursTest {
    private static final int NONE = -1;
    private static final int HOURS = 120;

    public static void main(String[] args) {
        firstTakesTheTideAnew();
        passTakesTheTideAnew();
        mayTakesTheTideAnew();
        planTakesTheTideAnew();
        openTakesTheTideAnew();
        openCountsBothEnds();
        tugsTakeBothEnds();
        tugsAreNotTakenAnew();
        theLastHour();
        hoursDoNotGoRound();
        Due.end("hours");
    }

    /** A river in which the ship can cross, and its gangway is not steep, when the tide is at one place alone. */
    private static TallShips only(int place) {
        TallShips x = new TallShips();
        x.quay(100, 200, false, 1, 40);
        x.ship(10, 45, 10, 1, 0, 0, 1);
        x.put(0, 0);
        x.set(4, 0);
        x.tide(place, 10);
        return x;
    }

    private static int next(int from, int place) {
        for (int hour = from; hour < HOURS; hour++) {
            if (hour % 12 == place) {
                return hour;
            }
        }
        return NONE;
    }

    private static void firstTakesTheTideAnew() {
        for (int place = 0; place < 12; place++) {
            TallShips x = only(place);
            for (int hour = 0; hour < HOURS; hour++) {
                Due.same("cross from " + hour + ", place " + place, x.first(0, hour, 0), next(hour, place));
            }
        }
    }

    private static void passTakesTheTideAnew() {
        for (int place = 0; place < 12; place++) {
            TallShips x = new TallShips();
            x.ship(10, 10, 480, 1, 0, 0, 1);
            Scenes.flat(x, 16);
            x.tide(place, 15);
            for (int hour = 0; hour < HOURS; hour++) {
                Due.same("pass from " + hour + ", place " + place, x.first(0, hour, 1), next(hour, place));
            }
        }
    }

    private static void mayTakesTheTideAnew() {
        for (int place = 0; place < 12; place++) {
            TallShips x = only(place);
            for (int hour = 0; hour < HOURS; hour++) {
                x.arrives(0, hour);
                Due.same("may from " + hour + ", place " + place, x.may(0, 0), next(hour, place) == NONE ? 2 : 0);
            }
        }
    }

    private static void planTakesTheTideAnew() {
        for (int place = 0; place < 12; place++) {
            TallShips x = only(place);
            int kept = NONE;
            for (int hour = 0; hour < HOURS; hour++) {
                x.arrives(0, hour);
                int due = next(hour, place);
                Due.same("plan from " + hour + ", place " + place, x.plan(), due == NONE ? NONE : due - hour);
                kept = due == NONE ? kept : due;
                Due.same("in from " + hour + ", place " + place, x.in(0), kept);
            }
        }
    }

    private static void openTakesTheTideAnew() {
        for (int place = 0; place < 12; place++) {
            TallShips x = only(place);
            for (int hour = 0; hour < HOURS; hour++) {
                Due.same("open at " + hour + ", place " + place, x.open(0, hour, hour), hour % 12 == place ? 1 : 0);
            }
            Due.same("open in all, place " + place, x.open(0, 0, 119), 10);
        }
    }

    /** "In how many HOURS from one to another one" */
    private static void openCountsBothEnds() {
        for (int from = 0; from < HOURS; from++) {
            TallShips x = only(7);
            for (int to = 0; to < HOURS; to++) {
                int due = from <= to ? 0 : NONE;
                for (int hour = from; hour <= to; hour++) {
                    due += hour % 12 == 7 ? 1 : 0;
                }
                Due.same("open from " + from + " to " + to, x.open(0, from, to), due);
            }
        }
    }

    /** "TUGS at HOURS from one to another one" */
    private static void tugsTakeBothEnds() {
        int[][] ends = {{0, 0}, {0, 1}, {0, 119}, {1, 118}, {11, 12}, {12, 12}, {59, 60}, {118, 119}, {119, 119}};
        for (int[] end : ends) {
            TallShips x = Scenes.easy(0);
            x.ship(10, 10, 10, 1, 3, 0, 1);
            x.put(0, 0);
            Due.same("tugs", x.tugs(end[0], end[1], 3), true);
            for (int hour = 0; hour < HOURS; hour++) {
                x.arrives(0, hour);
                int due = hour < end[0] ? end[0] - hour : hour <= end[1] ? 0 : NONE;
                Due.same("tugs from " + end[0] + " to " + end[1] + ", plan from " + hour, x.plan(), due);
            }
        }
    }

    /** The tide begins anew each twelve hours, but the tugs of an hour are its own. */
    private static void tugsAreNotTakenAnew() {
        TallShips x = only(5);
        x.ship(10, 45, 10, 1, 3, 0, 1);
        x.put(0, NONE);
        x.put(1, 0);
        x.tugs(5, 5, 3);
        x.tugs(28, 28, 3);
        x.tugs(30, 30, 3);
        x.tugs(53, 53, 9);
        Due.same("at once in the first tide", x.plan(), 5);
        x.arrives(1, 6);
        Due.same("with tide and tugs", x.plan(), 47);
        Due.same("with tide and tugs: hour", x.in(1), 53);
        x.arrives(1, 54);
        Due.same("with tide, without tugs", x.plan(), NONE);
    }

    private static void theLastHour() {
        TallShips x = only(11);
        x.arrives(0, 119);
        Due.same("crosses at 119", x.first(0, 119, 0), 119);
        Due.same("passes at 119", x.first(0, 119, 1), 119);
        Due.same("may lie, from 119", x.may(0, 0), 0);
        Due.same("comes in at 119", x.plan(), 0);
        Due.same("in at 119", x.in(0), 119);
        Due.same("best with 119", x.best(), 1);
        Due.same("open at 119", x.open(0, 119, 119), 1);
        TallShips late = only(10);
        late.arrives(0, 119);
        Due.same("its last hour was 118", late.first(0, 118, 0), 118);
        Due.same("no hour at 119", late.first(0, 119, 0), NONE);
        Due.same("may not lie, from 119", late.may(0, 0), 2);
        Due.same("no plan from 119", late.plan(), NONE);
        Due.same("wrong from 119", late.wrong(), 10);
        Due.same("mend from 119", late.mend(), 1);
        Due.same("not open at 119", late.put(0, 0) ? late.open(0, 119, 119) : NONE, 0);
    }

    /** Behind hour 119 nothing comes, not hour 0 again. */
    private static void hoursDoNotGoRound() {
        TallShips x = only(0);
        Due.same("from 108", x.first(0, 108, 0), 108);
        Due.same("from 109", x.first(0, 109, 0), NONE);
        x.arrives(0, 109);
        Due.same("plan from 109", x.plan(), NONE);
        Due.same("first does not look at arrives", x.first(0, 0, 0), 0);
        TallShips two = Scenes.moored(2);
        two.arrives(0, 119);
        two.arrives(1, 119);
        Due.same("two at the last hour", two.plan(), NONE);
        two.arrives(1, 118);
        Due.same("two at the last hours", two.plan(), 0);
        Due.hours("two at the last hours", two, 119, 118);
        two.arrives(0, 118);
        Due.same("both from 118", two.plan(), 1);
        Due.hours("both from 118", two, 118, 119);
    }
}
