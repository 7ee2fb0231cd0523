/** Promise 4, house: every what, levels at the ends of figures and heights, refusals. */
public final class Promise04HouseTest {
    /** At which the kinds sell and buy: with figure 9 at height 0 and 99, with figure 0 at height 99. */
    private static final int[][] LOW = {{0, 0}, {0, -9}, {9, 0}, {0, 999}, {9, -9}, {9, -18}};
    private static final int[][] HIGH = {{99, 99}, {99, 90}, {108, 99}, {99, 999}, {108, 90}, {108, 81}};
    private static final int[][] NO_FIGURE = {{99, 99}, {99, 99}, {99, 99}, {99, 999}, {99, 99}, {99, 99}};

    public static void main(String[] args) {
        levels();
        leastOfAll();
        greatestOfAll();
        lastHouseOfSix();
        noSuchHouse();
        noSuchWhat();
        nobodyIsToldAheadOfOther();
        Due.end("Promise04HouseTest");
    }

    private static void levels() {
        for (int kind = 0; kind <= 5; kind++) {
            level(kind, 9, 0, LOW[kind]);
            level(kind, 9, 99, HIGH[kind]);
            level(kind, 0, 99, NO_FIGURE[kind]);
        }
    }

    private static void level(int kind, int figure, int height, int[] want) {
        GoodsDownhill x = Due.with(Due.house(kind, figure, height, "00", "00", 0));
        String house = "kind " + kind + ", figure " + figure + ", height " + height;
        Due.due(house + " sells at", x.house(0, 3), want[0]);
        Due.due(house + " buys at", x.house(0, 4), want[1]);
    }

    private static void look(GoodsDownhill x, int house, int... want) {
        for (int what = 0; what < want.length; what++) {
            Due.due("house(" + house + ", " + what + ")", x.house(house, what), want[what]);
        }
        Due.due("no refusals", x.count(11) + x.count(12), 0);
    }

    private static void leastOfAll() {
        look(Due.with("h00000000000;"), 0, 0, 0, 0, 0, 0, 0, 0, 0, 0, 0);
    }

    private static void greatestOfAll() {
        look(Due.with("h59992929999;"), 0, 5, 9, 99, 108, 81, 2, 9, 2, 9, 999);
    }

    private static void lastHouseOfSix() {
        GoodsDownhill x = Edge.idle(5);
        Due.tell(x, "h11231425678;");
        look(x, 5, 1, 1, 23, 23, 22, 1, 4, 2, 5, 678);
        Due.due("house(6, 0)", x.house(6, 0), -1);
    }

    private static void noSuchHouse() {
        for (int h : Edge.NO_HOUSE) {
            for (int what = 0; what <= 9; what++) {
                int asked = what;
                Edge.refused("house(" + h + ", " + what + ")", -1, x -> x.house(h, asked));
            }
        }
        Edge.refused("house(0, 0) without houses", -1, GoodsDownhill::new, x -> x.house(0, 0));
    }

    private static void noSuchWhat() {
        int[] others = {-1, 10, Edge.LEAST, Edge.GREATEST};
        for (int what : others) {
            for (int h = 0; h < 3; h++) {
                int asked = h;
                Edge.refused("house(" + h + ", " + what + ")", -2, x -> x.house(asked, what));
            }
        }
    }

    private static void nobodyIsToldAheadOfOther() {
        Edge.refused("house(3, 10)", -1, x -> x.house(3, 10));
        Edge.refused("house(-1, -1)", -1, x -> x.house(-1, -1));
    }
}
