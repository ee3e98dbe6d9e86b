/** Rivers that tests make again and again, always alike: an empty one, one with room for more, a full one. */
final class Scenes {
    static final int NONE = -1;
    static final int[] LEVELS = {10, 14, 20, 26, 30, 33, 31, 25, 19, 13, 9, 8};
    static final int[] SETTINGS = {45, 510, 4, 12, 35};
    static final int[] MOST_SETTINGS = {200, 900, 20, 100, 100};
    /** Length, draught, height, fame, needs, arrives, stop. */
    static final int[][] SHIPS = {
        {300, 30, 400, 50, 1, 5, 10},
        {250, 35, 450, 70, 2, 0, 20},
        {400, 28, 300, 70, 3, 25, 5},
        {120, 20, 200, 10, 0, 60, 30},
        {90, 22, 480, 33, 1, 61, 40},
        {700, 40, 470, 0, 2, 2, 60},
        {500, 25, 350, 100, 0, 118, 1}};
    static final int[] LEAST_SHIP = {1, 1, 1, 0, 0, 0, 1};
    static final int[] MOST_SHIP = {1200, 120, 700, 100, 3, 119, 60};
    /** Length, depth, above (1) or not, crowd, deck. */
    static final int[][] QUAYS = {
        {1500, 60, 0, 3, 40},
        {1200, 50, 1, 7, 55},
        {600, 70, 0, 10, 20},
        {800, 45, 1, 1, 120}};

    private Scenes() {
    }

    static TallShips empty() {
        return new TallShips();
    }

    /** Three ships and two quays; a plan is kept, and one of its ships has lost its berth since. */
    static TallShips some() {
        TallShips x = river(3, 2);
        x.foul(0, 2, true);
        x.put(0, 0);
        x.put(1, 1);
        x.put(2, 0);
        x.plan();
        x.put(1, NONE);
        return x;
    }

    /** Seven ships and four quays; a plan is kept, and the berths have changed since. */
    static TallShips full() {
        TallShips x = river(7, 4);
        x.foul(0, 2, true);
        x.foul(1, 6, true);
        x.foul(5, 4, true);
        for (int ship = 0; ship < 6; ship++) {
            x.put(ship, ship % 4);
        }
        x.plan();
        x.put(1, NONE);
        x.put(6, 3);
        return x;
    }

    static TallShips river(int ships, int quays) {
        TallShips x = new TallShips();
        for (int place = 0; place < 12; place++) {
            x.tide(place, LEVELS[place]);
        }
        for (int what = 0; what < 5; what++) {
            x.set(what, SETTINGS[what]);
        }
        x.tugs(10, 20, 1);
        x.tugs(30, 40, 3);
        x.tugs(50, 55, 0);
        for (int i = 0; i < ships; i++) {
            ship(x, SHIPS[i]);
        }
        for (int i = 0; i < quays; i++) {
            quay(x, QUAYS[i]);
        }
        return x;
    }

    static int ship(TallShips x, int... of) {
        return x.ship(of[0], of[1], of[2], of[3], of[4], of[5], of[6]);
    }

    static int quay(TallShips x, int... of) {
        return x.quay(of[0], of[1], of[2] == 1, of[3], of[4]);
    }

    /** A river with one quay of plenty, and small ships of which nothing hinders any. */
    static TallShips easy(int ships) {
        TallShips x = new TallShips();
        x.quay(4000, 200, false, 1, 30);
        for (int i = 0; i < ships; i++) {
            x.ship(10, 10, 10, 1, 0, 0, 1);
        }
        return x;
    }

    /** The easy river, with every ship at the quay. */
    static TallShips moored(int ships) {
        TallShips x = easy(ships);
        for (int i = 0; i < ships; i++) {
            x.put(i, 0);
        }
        return x;
    }

    static void flat(TallShips x, int level) {
        for (int place = 0; place < 12; place++) {
            x.tide(place, level);
        }
    }
}
