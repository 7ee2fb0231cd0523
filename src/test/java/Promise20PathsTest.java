/** Promise 20, paths: none, one and the most ways, one and five sales, refusals and their order. */
public final class Promise20PathsTest {
    public static void main(String[] args) {
        none();
        oneSale();
        mostWays();
        fiveSales();
        noHouseTwice();
        bothWaysRound();
        asksAlone();
        noSuchHouse();
        oneHouseTwice();
        noSuchWhat();
        nobodyIsToldFirst();
        Due.end("Promise20PathsTest");
    }

    private static String at(int height) {
        return Due.house(0, 0, height, "00", "00", 0);
    }

    private static void none() {
        Edge.asked("as high, how many", 0, () -> Edge.idle(2), x -> x.paths(0, 1, 0));
        Edge.asked("as high, the fewest", -9, () -> Edge.idle(2), x -> x.paths(0, 1, 1));
        GoodsDownhill x = Due.with(at(30) + at(20) + at(40));
        Due.due("up, how many", x.paths(0, 2, 0), 0);
        Due.due("up, the fewest", x.paths(0, 2, 1), -9);
        for (int a = 0; a < 6; a++) {
            for (int b = 0; b < 6; b++) {
                if (a != b) {
                    Due.due("as high, from " + a + " to " + b, Edge.idle(6).paths(a, b, 1), -9);
                    Due.due("as high, from " + a + " to " + b, Edge.idle(6).paths(a, b, 0), 0);
                }
            }
        }
    }

    private static void oneSale() {
        GoodsDownhill x = Due.with(at(51) + at(50));
        Due.due("one below, how many", x.paths(0, 1, 0), 1);
        Due.due("one below, the fewest", x.paths(0, 1, 1), 1);
        x.law(1);
        Due.due("one above, how many", x.paths(1, 0, 0), 1);
        Due.due("one above, the fewest", x.paths(1, 0, 1), 1);
    }

    /** By any law from two to six houses: 1, 2, 5, 16, 65 ways. */
    private static void mostWays() {
        int[] ways = {1, 2, 5, 16, 65};
        for (int houses = 2; houses <= 6; houses++) {
            GoodsDownhill x = Edge.idle(houses);
            x.law(2);
            Due.due("of " + houses + ", how many", x.paths(0, houses - 1, 0), ways[houses - 2]);
            Due.due("of " + houses + ", back", x.paths(houses - 1, 0, 0), ways[houses - 2]);
            Due.due("of " + houses + ", the fewest", x.paths(0, houses - 1, 1), 1);
        }
        GoodsDownhill down = Due.with(at(60) + at(50) + at(40) + at(30) + at(20) + at(10));
        Due.due("down six stairs", down.paths(0, 5, 0), 16);
    }

    /** Each market sells to the next one above, and to none above that. */
    private static void fiveSales() {
        StringBuilder letters = new StringBuilder();
        for (int h = 0; h < 6; h++) {
            letters.append(Due.house(4, 5, 9 * h, "00", "00", 0));
        }
        GoodsDownhill x = Due.with(letters.toString());
        for (int h = 1; h < 6; h++) {
            Due.due("fewest to " + h, x.paths(0, h, 1), h);
            Due.due("ways to " + h, x.paths(0, h, 0), 1);
        }
        Due.due("down at once", x.paths(5, 0, 1), 1);
    }

    /** By any law a thing could go to 2 and back to 0 first; then it would have been at 0 twice. */
    private static void noHouseTwice() {
        GoodsDownhill x = Edge.idle(3);
        x.law(2);
        Due.due("at once and by one", x.paths(0, 1, 0), 2);
        Due.due("at once", x.paths(0, 1, 1), 1);
    }

    private static void bothWaysRound() {
        GoodsDownhill x = Due.with(at(30) + Due.house(4, 5, 30, "00", "00", 0) + at(32) + Due.house(4, 6, 33, "00", "00", 0));
        Due.due("not at once", x.lawful(0, 2), 0);
        Due.due("by 1, by 3, by 1 and 3, by 3 and 1", x.paths(0, 2, 0), 4);
        Due.due("the fewest", x.paths(0, 2, 1), 2);
    }

    private static void asksAlone() {
        for (int what = 0; what <= 1; what++) {
            int asked = what;
            Edge.asked("paths(0, 2, " + what + ")", Edge.busy().paths(0, 2, what), Edge::busy, x -> x.paths(0, 2, asked));
        }
    }

    private static void noSuchHouse() {
        for (int h : Edge.NO_HOUSE) {
            Edge.refused("paths(" + h + ", 0, 0)", -1, x -> x.paths(h, 0, 0));
            Edge.refused("paths(2, " + h + ", 1)", -1, x -> x.paths(2, h, 1));
        }
    }

    private static void oneHouseTwice() {
        for (int h = 0; h < 3; h++) {
            int asked = h;
            Edge.refused("paths(" + h + ", " + h + ", 0)", -1, x -> x.paths(asked, asked, 0));
        }
    }

    private static void noSuchWhat() {
        for (int what : Edge.NO_WHAT_OF_TWO) {
            Edge.refused("paths(0, 1, " + what + ")", -2, x -> x.paths(0, 1, what));
            Edge.refused("paths(1, 0, " + what + ")", -2, x -> x.paths(1, 0, what));
        }
    }

    private static void nobodyIsToldFirst() {
        Edge.refused("paths(0, 0, 2)", -1, x -> x.paths(0, 0, 2));
        Edge.refused("paths(3, 0, -1)", -1, x -> x.paths(3, 0, -1));
    }
}
