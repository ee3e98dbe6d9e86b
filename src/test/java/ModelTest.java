import java.util.Random;

/**
 * Long runs of chosen-by-seed calls on the class and on a model that tries
 * berths and hours one by one; every answer of the two must be alike.
 */
public final class ModelTest {
    private static final int RUNS = 1000;
    private static final int CALLS = 120;
    private static final int ENOUGH_WRONG = 20;

    private final Random random;
    private final Twin twin;
    /** Many small ships, much alike, at short quays: so that few berths and hours are better than others. */
    private final boolean crowded;

    private ModelTest(int run) {
        crowded = run % 2 == 1;
        random = new Random(1000L + run);
        twin = new Twin("run " + run);
    }

    public static void main(String[] args) {
        for (int run = 0; run < RUNS && Due.wrong() < ENOUGH_WRONG; run++) {
            new ModelTest(run).go();
        }
        Due.end("model");
    }

    private void go() {
        fillIn();
        for (int call = 0; call < CALLS; call++) {
            step();
            twin.askAll();
        }
    }

    private int pick(int least, int most) {
        return least + random.nextInt(most - least + 1);
    }

    /** Mostly within the limits, at times at or beyond them. */
    private int some(int least, int most) {
        switch (random.nextInt(40)) {
            case 0:
                return least - 1;
            case 1:
                return most + 1;
            case 2:
                return least;
            case 3:
                return most;
            case 4:
                return random.nextBoolean() ? Integer.MAX_VALUE : Integer.MIN_VALUE;
            default:
                return pick(least, most);
        }
    }

    private void fillIn() {
        int swing = crowded ? pick(0, 20) : pick(0, 80);
        for (int place = 0; place < 12; place++) {
            twin.tide(place, pick(0, swing));
        }
        int ships = pick(crowded ? 5 : 0, 7);
        for (int i = 0; i < ships; i++) {
            addShip();
        }
        int quays = pick(crowded ? 2 : 0, 4);
        for (int i = 0; i < quays; i++) {
            addQuay();
        }
    }

    private void addShip() {
        if (crowded) {
            twin.ship(10 * some(1, 4), some(20, 45), some(470, 500), some(0, 2), some(0, 3), some(0, 4), some(1, 3));
        } else {
            twin.ship(some(1, random.nextBoolean() ? 300 : 1200), some(1, pick(20, 120)), some(1, 700),
                    some(0, random.nextBoolean() ? 3 : 100), some(0, 3),
                    some(0, random.nextBoolean() ? 10 : 119), some(1, 60));
        }
    }

    private void addQuay() {
        int above = random.nextInt(3) == 0 ? 1 : 0;
        if (crowded) {
            twin.quay(10 * some(3, 15), some(30, 60), above, some(0, 2), some(0, 120));
        } else {
            twin.quay(some(1, random.nextBoolean() ? 1000 : 4000), some(1, 200), above,
                    some(0, random.nextBoolean() ? 1 : 10), some(0, 120));
        }
    }

    private int anyShip() {
        return random.nextInt(12) == 0 ? some(0, 7) : pick(0, Math.max(0, twin.model.ships - 1));
    }

    private int anyQuay() {
        return random.nextInt(8) == 0 ? some(-1, 4) : pick(0, Math.max(0, twin.model.quays - 1));
    }

    /** One call, the ones that find most chosen most often. */
    private void step() {
        switch (random.nextInt(24)) {
            case 0:
                addShip();
                break;
            case 1:
                addQuay();
                break;
            case 2:
                twin.tide(some(0, 11), some(0, 80));
                break;
            case 3:
                stepSet();
                break;
            case 4:
                stepTugs();
                break;
            case 5, 6:
                twin.foul(anyShip(), anyShip(), random.nextInt(3) > 0);
                break;
            case 7:
                twin.arrives(anyShip(), some(random.nextBoolean() ? 0 : 110, 119));
                break;
            case 8, 9, 10, 11:
                twin.put(anyShip(), anyQuay());
                break;
            case 12, 13:
                twin.best();
                break;
            case 14, 15:
                twin.mend();
                break;
            case 16, 17, 18:
                twin.plan();
                break;
            case 19, 20:
                twin.open(anyShip(), some(0, 119), some(0, 119));
                break;
            default:
                twin.first(anyShip(), some(0, 119), some(0, 1));
                twin.may(anyShip(), some(0, 3));
                break;
        }
    }

    private void stepSet() {
        int what = some(0, 4);
        int most = what >= 0 && what < 5 ? Scenes.MOST_SETTINGS[what] : 10;
        twin.set(what, some(0, most));
    }

    private void stepTugs() {
        int from = some(0, 119);
        int to = random.nextBoolean() ? some(0, 119) : Math.min(119, Math.abs(from % 120) + pick(0, 30));
        twin.tugs(from, to, some(0, random.nextBoolean() ? 3 : 9));
    }
}
