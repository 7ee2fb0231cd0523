/** Promise 6, price: the least and the greatest price, refusals and their order. */
public final class Promise06PriceTest {
    public static void main(String[] args) {
        fromOneToNine();
        eachGoodItsOwn();
        noSuchGood();
        below();
        above();
        nobodyIsToldFirst();
        Due.end("Promise06PriceTest");
    }

    private static void fromOneToNine() {
        for (int good = 0; good < 3; good++) {
            GoodsDownhill x = new GoodsDownhill();
            int before = 1;
            for (int v = 1; v <= 9; v++) {
                Due.due("price(" + good + ", " + v + ")", x.price(good, v), before);
                before = v;
            }
            Due.due("price(" + good + ", 1)", x.price(good, 1), 9);
            Due.due("price(" + good + ", 1)", x.price(good, 1), 1);
        }
    }

    private static void eachGoodItsOwn() {
        GoodsDownhill x = new GoodsDownhill();
        x.price(0, 7);
        x.price(2, 9);
        Due.due("price of 1", x.price(1, 1), 1);
        Due.due("price of 0", x.price(0, 1), 7);
        Due.due("price of 2", x.price(2, 1), 9);
    }

    private static void noSuchGood() {
        for (int good : Edge.NO_GOOD) {
            Edge.refused("price(" + good + ", 1)", -1, x -> x.price(good, 1));
            Edge.refused("price(" + good + ", 9)", -1, x -> x.price(good, 9));
        }
    }

    private static void below() {
        int[] prices = {0, -1, Edge.LEAST};
        for (int v : prices) {
            Edge.refused("price(0, " + v + ")", -4, x -> x.price(0, v));
            Edge.refused("price(2, " + v + ")", -4, x -> x.price(2, v));
        }
    }

    private static void above() {
        int[] prices = {10, 11, Edge.GREATEST};
        for (int v : prices) {
            Edge.refused("price(0, " + v + ")", -6, x -> x.price(0, v));
            Edge.refused("price(2, " + v + ")", -6, x -> x.price(2, v));
        }
    }

    private static void nobodyIsToldFirst() {
        Edge.refused("price(3, 0)", -1, x -> x.price(3, 0));
        Edge.refused("price(3, 10)", -1, x -> x.price(3, 10));
        Edge.refused("price(-1, 0)", -1, x -> x.price(-1, 0));
    }
}
