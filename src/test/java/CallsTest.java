import java.util.Random;

/**
 * "An object is used for at most 512 calls after it has been made": to the 512th call the
 * answers are as due, whatever the calls and their arguments are, and however many
 * objects there are; the same calls give the same answers.
 */
public final class CallsTest {
    private static final int NONE = -1;
    private static final int CALLS = 512;

    public static void main(String[] args) {
        dearCallsToTheLast();
        allCallsInTurn();
        anyArguments();
        sameCallsSameAnswers();
        Due.end("calls");
    }

    /** Seven ships and four quays; the calls that look for most are made until the last one. */
    private static void dearCallsToTheLast() {
        TallShips fresh = Scenes.river(7, 4);
        fresh.best();
        int plan = fresh.plan();
        Due.same("there is a plan", plan != NONE, true);
        TallShips x = Scenes.river(7, 4);
        int made = 12 + 5 + 3 + 7 + 4;
        Due.same("best", x.best(), 7);
        made++;
        for (; made + 3 <= CALLS; made += 3) {
            Due.same("best, call " + (made + 1), x.best(), 7);
            Due.same("mend, call " + (made + 2), x.mend(), 0);
            Due.same("plan, call " + (made + 3), x.plan(), plan);
        }
    }

    private static void allCallsInTurn() {
        for (int run = 0; run < 40; run++) {
            Twin twin = new Twin("in turn, run " + run);
            Random random = new Random(5000L + run);
            for (int call = 0; call < CALLS; call++) {
                oneOf(call, twin, random);
            }
        }
    }

    private static void oneOf(int call, Twin twin, Random random) {
        int ship = random.nextInt(8);
        int other = random.nextInt(8);
        int quay = random.nextInt(6) - 1;
        int hour = random.nextInt(120);
        int later = hour + random.nextInt(120 - hour);
        switch (call % 21) {
            case 0 -> twin.tide(random.nextInt(12), random.nextInt(30));
            case 1 -> twin.set(random.nextInt(5), random.nextInt(3) == 0 ? random.nextInt(21) : NONE);
            case 2 -> twin.tugs(hour, later, random.nextInt(5));
            case 3 -> twin.ship(20 + random.nextInt(90), 5 + random.nextInt(30), 300 + random.nextInt(200),
                    random.nextInt(5), random.nextInt(4), random.nextInt(120), 1 + random.nextInt(60));
            case 4 -> twin.quay(100 + random.nextInt(200), 10 + random.nextInt(50), random.nextInt(2),
                    random.nextInt(4), random.nextInt(121));
            case 5 -> twin.foul(ship, other, random.nextBoolean());
            case 6 -> twin.arrives(ship, hour);
            case 7 -> twin.count(random.nextInt(7));
            case 8 -> twin.first(ship, hour, random.nextInt(2));
            case 9 -> twin.may(ship, quay);
            case 10 -> twin.put(ship, quay);
            case 11 -> twin.at(ship);
            case 12 -> twin.wrong();
            case 13 -> twin.best();
            case 14 -> twin.mend();
            case 15 -> twin.left(quay);
            case 16 -> twin.plan();
            case 17 -> twin.in(ship);
            case 18 -> twin.parade(random.nextInt(8));
            case 19 -> twin.minutes();
            default -> twin.open(ship, hour, later);
        }
    }

    /** Any number that an int can hold, in every argument; nothing but at may throw, and that as the document says. */
    private static void anyArguments() {
        Random random = new Random(77L);
        for (int run = 0; run < 40; run++) {
            Twin twin = new Twin("any arguments, run " + run);
            for (int i = 0; i < 7; i++) {
                twin.ship(Scenes.SHIPS[i]);
            }
            for (int i = 0; i < 4; i++) {
                twin.quay(Scenes.QUAYS[i]);
            }
            for (int call = 11; call < CALLS; call++) {
                anyOf(call, twin, random);
            }
        }
    }

    private static void anyOf(int call, Twin twin, Random random) {
        int a = any(random);
        int b = any(random);
        int c = any(random);
        switch (call % 17) {
            case 0 -> twin.tide(a, b);
            case 1 -> twin.set(a, b);
            case 2 -> twin.tugs(a, b, c);
            case 3 -> twin.ship(a, b, c, any(random), any(random), any(random), any(random));
            case 4 -> twin.quay(a, b, c & 1, any(random), any(random));
            case 5 -> twin.foul(a, b, c > 0);
            case 6 -> twin.arrives(a, b);
            case 7 -> twin.count(a);
            case 8 -> twin.first(a, b, c);
            case 9 -> twin.may(a, b);
            case 10 -> twin.put(a, b);
            case 11 -> twin.at(a);
            case 12 -> twin.left(a);
            case 13 -> twin.in(a);
            case 14 -> twin.parade(a);
            case 15 -> twin.open(a, b, c);
            default -> dear(a, twin);
        }
    }

    private static void dear(int which, Twin twin) {
        switch (which & 3) {
            case 0 -> twin.best();
            case 1 -> twin.mend();
            case 2 -> twin.plan();
            default -> twin.wrong();
        }
    }

    private static int any(Random random) {
        return random.nextInt(4) > 0 ? random.nextInt(8) - 1 : random.nextInt();
    }

    /** Two objects are given the same calls, a third one others between them. */
    private static void sameCallsSameAnswers() {
        TallShips x = Scenes.river(7, 4);
        TallShips y = Scenes.river(7, 4);
        TallShips other = Scenes.river(7, 4);
        for (int round = 0; round < 28; round++) {
            int ship = round % 7;
            int quay = round % 5 - 1;
            Due.same("put alike", x.put(ship, quay), y.put(ship, quay));
            other.put(ship, 3 - round % 4);
            Due.same("mend alike", x.mend(), y.mend());
            other.best();
            Due.same("plan alike", x.plan(), y.plan());
            other.tugs(0, 119, round % 10);
            other.plan();
            for (int i = 0; i < 7; i++) {
                Due.same("at alike", x.at(i), y.at(i));
                Due.same("in alike", x.in(i), y.in(i));
            }
        }
    }
}
