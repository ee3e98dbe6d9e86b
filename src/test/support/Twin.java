/** The class and the model side by side: each call is made on both, and their answers must be alike. */
final class Twin {
    final TallShips real = new TallShips();
    final Model model = new Model();
    private final String name;

    Twin(String name) {
        this.name = name;
    }

    /** The text is only made where it is told, for most answers are alike. */
    private void same(int got, int want, String call, int... with) {
        if (got != want) {
            StringBuilder text = new StringBuilder(name).append(": ").append(call);
            for (int each : with) {
                text.append(' ').append(each);
            }
            Due.same(text.toString(), got, want);
        } else {
            Due.asked();
        }
    }

    private static int number(boolean is) {
        return is ? 1 : 0;
    }

    void tide(int place, int level) {
        same(number(real.tide(place, level)), number(model.tide(place, level)), "tide", place, level);
    }

    void set(int what, int v) {
        same(real.set(what, v), model.set(what, v), "set", what, v);
    }

    void tugs(int from, int to, int v) {
        same(number(real.tugs(from, to, v)), number(model.tugs(from, to, v)), "tugs", from, to, v);
    }

    /** Length, draught, height, fame, needs, arrives, stop. */
    void ship(int... of) {
        same(Scenes.ship(real, of), model.ship(of), "ship", of);
    }

    /** Length, depth, above (1) or not, crowd, deck. */
    void quay(int... of) {
        same(Scenes.quay(real, of), model.quay(of), "quay", of);
    }

    void foul(int a, int b, boolean is) {
        same(number(real.foul(a, b, is)), number(model.foul(a, b, is)), "foul", a, b, number(is));
    }

    void arrives(int ship, int hour) {
        same(real.arrives(ship, hour), model.arrives(ship, hour), "arrives", ship, hour);
    }

    void count(int what) {
        same(real.count(what), model.count(what), "count", what);
    }

    void first(int ship, int hour, int how) {
        same(real.first(ship, hour, how), model.first(ship, hour, how), "first", ship, hour, how);
    }

    void may(int ship, int quay) {
        same(real.may(ship, quay), model.may(ship, quay), "may", ship, quay);
    }

    void put(int ship, int quay) {
        same(number(real.put(ship, quay)), number(model.put(ship, quay)), "put", ship, quay);
    }

    void at(int ship) {
        same(Due.at(real, ship), model.at(ship), "at", ship);
    }

    void wrong() {
        same(real.wrong(), model.wrongBerths(), "wrong");
    }

    void best() {
        same(real.best(), model.best(), "best");
    }

    void mend() {
        same(real.mend(), model.mend(), "mend");
    }

    void left(int quay) {
        same(real.left(quay), model.left(quay), "left", quay);
    }

    void plan() {
        same(real.plan(), model.plan(), "plan");
    }

    void in(int ship) {
        same(real.in(ship), model.in(ship), "in", ship);
    }

    void parade(int i) {
        same(real.parade(i), model.parade(i), "parade", i);
    }

    void minutes() {
        same(real.minutes(), model.minutes(), "minutes");
    }

    void open(int ship, int from, int to) {
        same(real.open(ship, from, to), model.open(ship, from, to), "open", ship, from, to);
    }

    /** Every question of few arguments, for all that there is and a little beyond. */
    void askAll() {
        for (int what = -1; what <= 6; what++) {
            count(what);
        }
        wrong();
        for (int ship = -1; ship <= 7; ship++) {
            at(ship);
            in(ship);
            parade(ship);
        }
        for (int quay = -1; quay <= 4; quay++) {
            left(quay);
        }
        minutes();
    }
}
