import java.util.Map;
import java.util.NoSuchElementException;

/** Counts the answers that are not the due ones, and ends a test by them. */
final class Due {
    static final int NONE = -1;
    /** Stands for a call of at that threw NoSuchElementException. */
    static final int THROWN = -77777;

    private static int asked = 0;
    private static int wrong = 0;

    private Due() {
    }

    /** An answer that was found to be as due elsewhere. */
    static void asked() {
        asked++;
    }

    static int wrong() {
        return wrong;
    }

    static void same(String what, int got, int want) {
        asked++;
        if (got != want) {
            wrong++;
            System.out.println(what + " answered " + got + ", due is " + want);
        }
    }

    static void same(String what, boolean got, boolean want) {
        same(what, got ? 1 : 0, want ? 1 : 0);
    }

    static void same(String what, Map<String, Integer> got, Map<String, Integer> want) {
        same(what + ": how many readings", got.size(), want.size());
        for (Map.Entry<String, Integer> each : want.entrySet()) {
            Integer read = got.get(each.getKey());
            same(what + ": " + each.getKey(), read == null ? Integer.MIN_VALUE : read, each.getValue());
        }
    }

    static void berths(String what, TallShips x, int... want) {
        for (int ship = 0; ship < want.length; ship++) {
            same(what + ": at(" + ship + ")", at(x, ship), want[ship]);
        }
    }

    static void hours(String what, TallShips x, int... want) {
        for (int ship = 0; ship < want.length; ship++) {
            same(what + ": in(" + ship + ")", x.in(ship), want[ship]);
        }
    }

    static int at(TallShips x, int ship) {
        try {
            return x.at(ship);
        } catch (NoSuchElementException e) {
            return THROWN;
        }
    }

    static void end(String test) {
        System.out.println(test + ": " + asked + " answers, " + wrong + " not as due");
        if (wrong != 0) {
            System.exit(1);
        }
    }
}
