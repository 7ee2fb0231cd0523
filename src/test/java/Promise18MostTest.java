/** Promise 18, most: nothing, all, stores and wants as bounds, who must leave a buyer to whom, refusals. */
public final class Promise18MostTest {
    public static void main(String[] args) {
        nothing();
        boundByStores();
        boundByWants();
        boundByAll();
        wantsOfNothing();
        levelsOneApart();
        shared();
        coinStoresAndRoomAside();
        eachGoodItsOwn();
        asksAlone();
        noSuchGood();
        Due.end("Promise18MostTest");
    }

    private static GoodsDownhill afterAWeek(String letters) {
        GoodsDownhill x = Due.with(letters);
        x.week();
        return x;
    }

    private static String seller(int height, int pieces) {
        return Due.house(0, 0, height, "0" + pieces, "10", 0);
    }

    private static String buyer(int height, int wants) {
        return Due.house(0, 0, height, "10", "0" + wants, 0);
    }

    private static void nothing() {
        for (int good = 0; good < 3; good++) {
            Due.due("no houses", new GoodsDownhill().most(good), 0);
            Due.due("nothing in stores", Edge.idle(6).most(good), 0);
        }
        Due.due("no buyer", afterAWeek(seller(50, 9)).most(0), 0);
        Due.due("no seller", afterAWeek(buyer(50, 9)).most(0), 0);
    }

    private static void boundByStores() {
        Due.due("1 of 9", afterAWeek(seller(50, 1) + buyer(40, 9)).most(0), 1);
        Due.due("8 of 9", afterAWeek(seller(50, 8) + buyer(40, 9)).most(0), 8);
        Due.due("9 of 9", afterAWeek(seller(50, 9) + buyer(40, 9)).most(0), 9);
    }

    private static void boundByWants() {
        Due.due("of 9 just 1", afterAWeek(seller(50, 9) + buyer(40, 1)).most(0), 1);
        Due.due("of 9 just 8", afterAWeek(seller(50, 9) + buyer(40, 8)).most(0), 8);
    }

    /** Five buyers want nine each; one store holds 99. */
    private static void boundByAll() {
        GoodsDownhill x = Edge.idle(0);
        Due.tell(x, seller(50, 9) + buyer(40, 9) + buyer(41, 9) + buyer(42, 9));
        Due.tell(x, buyer(43, 9) + buyer(44, 9));
        for (int w = 1; w <= 12; w++) {
            x.week();
            Due.due("behind " + w, x.most(0), Math.min(45, 9 * w));
        }
        GoodsDownhill y = Edge.idle(0);
        Due.tell(y, buyer(40, 9) + seller(50, 1) + seller(50, 1) + seller(50, 1));
        Due.tell(y, seller(50, 1) + seller(50, 1));
        y.week();
        Due.due("five sellers", y.most(0), 5);
    }

    private static void wantsOfNothing() {
        Due.due("wants 0", afterAWeek(seller(50, 9) + buyer(40, 0)).most(0), 0);
        GoodsDownhill x = afterAWeek(Due.house(0, 0, 50, "09", "00", 0) + buyer(40, 2));
        Due.due("who wants 0 of it sells", x.most(0), 2);
        GoodsDownhill y = afterAWeek(Due.house(0, 0, 50, "09", "01", 0) + buyer(40, 2));
        Due.due("who wants 1 of it does not", y.most(0), 0);
    }

    private static void levelsOneApart() {
        int[] heights = {49, 50, 51};
        int[] down = {9, 0, 0};
        int[] up = {0, 0, 9};
        for (int i = 0; i < 3; i++) {
            GoodsDownhill x = afterAWeek(seller(50, 9) + buyer(heights[i], 9));
            Due.due("down to " + heights[i], x.most(0), down[i]);
            x.law(1);
            Due.due("up to " + heights[i], x.most(0), up[i]);
            x.law(2);
            Due.due("any", x.most(0), 9);
        }
    }

    /** Who may sell to several must leave those to others who may sell to no one else. */
    private static void shared() {
        Due.due("0 serves 2, 1 serves 3", afterAWeek(seller(50, 5) + seller(30, 5) + buyer(40, 5) + buyer(20, 5)).most(0), 10);
        Due.due("as much as 0 can", afterAWeek(seller(50, 3) + seller(30, 5) + buyer(40, 5) + buyer(20, 5)).most(0), 8);
        Due.due("0 helps 1 out", afterAWeek(seller(50, 9) + seller(30, 2) + buyer(40, 5) + buyer(20, 5)).most(0), 10);
        Due.due("1 has too many", afterAWeek(seller(50, 1) + seller(30, 9) + buyer(40, 5) + buyer(20, 5)).most(0), 6);
        Due.due("a stair of three", afterAWeek(seller(60, 2) + seller(40, 2) + seller(20, 2) + buyer(50, 2)
            + buyer(30, 2) + buyer(10, 2)).most(0), 6);
        Due.due("the stair turned about", afterAWeek(seller(50, 2) + seller(30, 2) + seller(10, 2) + buyer(60, 2)
            + buyer(40, 2) + buyer(20, 2)).most(0), 4);
    }

    private static void coinStoresAndRoomAside() {
        GoodsDownhill x = Due.with(seller(50, 9) + Due.house(0, 0, 40, "09", "03", 0));
        for (int w = 0; w < 20; w++) {
            x.week();
        }
        Due.due("a buyer with a store and no coin", x.most(0), 3);
        x.price(0, 9);
        Due.due("prices aside", x.most(0), 3);
    }

    private static void eachGoodItsOwn() {
        for (int good = 0; good < 3; good++) {
            GoodsDownhill x = Due.with(Due.house(0, 0, 50, good + "4", good + "0", 0) + Due.house(0, 0, 40, "00", good + "9", 0));
            x.week();
            for (int asked = 0; asked < 3; asked++) {
                Due.due("most(" + asked + ")", x.most(asked), asked == good ? 4 : 0);
            }
        }
    }

    private static void asksAlone() {
        for (int good = 0; good < 3; good++) {
            int asked = good;
            Edge.asked("most(" + good + ")", Edge.busy().most(good), Edge::busy, x -> x.most(asked));
        }
    }

    private static void noSuchGood() {
        for (int good : Edge.NO_GOOD) {
            Edge.refused("most(" + good + ")", -1, x -> x.most(good));
        }
        Edge.refused("most(3) without houses", -1, GoodsDownhill::new, x -> x.most(3));
    }
}
