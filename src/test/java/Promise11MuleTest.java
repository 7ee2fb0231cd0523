/** Promise 11, mule: the least and the most coin, 51 and 52 weeks, refusals and their order. */
public final class Promise11MuleTest {
    public static void main(String[] args) {
        leastCoin();
        allThereIs();
        roomForCoin();
        notBehind51Weeks();
        behind52Weeks();
        longBehind();
        heightsAndLawsDoNotMatter();
        noSuchHouse();
        oneHouseTwice();
        below();
        tooMuch();
        order();
        refusedMuleCanGo();
        Due.end("Promise11MuleTest");
    }

    private static void leastCoin() {
        GoodsDownhill x = Edge.idle(2);
        Due.due("mule(0, 1, 1)", x.mule(0, 1, 1), 52);
        Due.due("coin of 0", x.house(0, 9), 8);
        Due.due("coin of 1", x.house(1, 9), 10);
    }

    private static void allThereIs() {
        GoodsDownhill x = Edge.idle(2);
        Due.due("one more than there is", x.mule(0, 1, 10), -6);
        Due.due("all there is", x.mule(0, 1, 9), 52);
        Due.due("coin of 0", x.house(0, 9), 0);
        Due.due("coin of 1", x.house(1, 9), 18);
    }

    private static void roomForCoin() {
        GoodsDownhill x = Edge.idle(2);
        Inside.putCoin(x, 1, 9991);
        Due.due("one above 9999", x.mule(0, 1, 9), -6);
        Due.due("it can go still", x.count(8), 0);
        Due.due("just 9999", x.mule(0, 1, 8), 52);
        Due.due("coin of 0", x.house(0, 9), 1);
        Due.due("coin of 1", x.house(1, 9), 9999);
        GoodsDownhill full = Edge.idle(2);
        Inside.putCoin(full, 1, 9999);
        Due.due("full", full.mule(0, 1, 1), -6);
        Due.due("from the full one", full.mule(1, 0, 9990), 52);
        Due.due("coin of 0", full.house(0, 9), 9999);
        GoodsDownhill both = Edge.idle(2);
        Inside.putCoin(both, 0, 9999);
        Due.due("all of 9999 to one with 9", both.mule(0, 1, 9999), -6);
    }

    /** The mule went in week 3, and so many weeks went by. */
    private static GoodsDownhill behind(int weeks) {
        GoodsDownhill x = Edge.idle(2);
        for (int w = 0; w < 3; w++) {
            x.week();
        }
        x.mule(0, 1, 1);
        for (int w = 0; w < weeks; w++) {
            x.week();
        }
        return x;
    }

    private static void notBehind51Weeks() {
        int[] weeks = {0, 1, 50, 51};
        for (int w : weeks) {
            Due.due("weeks till it can go", behind(w).count(8), 52 - w);
            Edge.refused("mule behind " + w, -3, () -> behind(w), x -> x.mule(1, 0, 1));
        }
    }

    private static void behind52Weeks() {
        GoodsDownhill x = behind(52);
        Due.due("it can go", x.count(8), 0);
        Due.due("mule", x.mule(1, 0, 10), 55 + 52);
        Due.due("coin of 0", x.house(0, 9), 18);
        Due.due("not again", x.mule(0, 1, 1), -3);
        Due.due("weeks till it can go", x.count(8), 52);
    }

    private static void longBehind() {
        GoodsDownhill x = behind(100);
        Due.due("it can go", x.count(8), 0);
        Due.due("mule", x.mule(1, 0, 1), 103 + 52);
    }

    private static void heightsAndLawsDoNotMatter() {
        for (int law = 0; law < 3; law++) {
            GoodsDownhill x = Due.with(Due.house(0, 0, 10, "00", "00", 5) + Due.house(3, 0, 90, "00", "00", 5));
            x.law(law);
            Due.due("up", x.mule(0, 1, 5), 52);
            GoodsDownhill y = Due.with(Due.house(0, 0, 10, "00", "00", 5) + Due.house(3, 0, 90, "00", "00", 5));
            y.law(law);
            Due.due("down", y.mule(1, 0, 5), 52);
        }
    }

    private static void noSuchHouse() {
        for (int h : Edge.NO_HOUSE) {
            Edge.refused("mule(" + h + ", 0, 1)", -1, Edge::rested, x -> x.mule(h, 0, 1));
            Edge.refused("mule(0, " + h + ", 1)", -1, Edge::rested, x -> x.mule(0, h, 1));
        }
    }

    private static void oneHouseTwice() {
        for (int h = 0; h < 3; h++) {
            int asked = h;
            Edge.refused("mule(" + h + ", " + h + ", 1)", -1, Edge::rested, x -> x.mule(asked, asked, 1));
        }
    }

    private static void below() {
        int[] coins = {0, -1, Edge.LEAST};
        for (int coin : coins) {
            Edge.refused("mule(0, 1, " + coin + ")", -4, Edge::rested, x -> x.mule(0, 1, coin));
        }
    }

    private static void tooMuch() {
        int[] coins = {8, 9999, 10000, Edge.GREATEST};
        for (int coin : coins) {
            Edge.refused("mule(2, 1, " + coin + ")", -6, Edge::rested, x -> x.mule(2, 1, coin));
        }
        Due.due("mule(2, 1, 7)", Edge.rested().mule(2, 1, 7), 53);
    }

    private static void order() {
        Edge.refused("nobody ahead of below", -1, x -> x.mule(0, 0, 0));
        Edge.refused("nobody ahead of state", -1, x -> x.mule(0, 3, 1));
        Edge.refused("nobody ahead of room", -1, Edge::rested, x -> x.mule(0, 3, Edge.GREATEST));
        Edge.refused("below ahead of state", -4, x -> x.mule(0, 1, 0));
        Edge.refused("state ahead of room", -3, x -> x.mule(0, 1, Edge.GREATEST));
    }

    private static void refusedMuleCanGo() {
        GoodsDownhill x = Edge.rested();
        x.mule(0, 0, 1);
        x.mule(0, 1, 0);
        x.mule(0, 1, 9999);
        Due.due("it can go", x.count(8), 0);
        Due.due("mule", x.mule(0, 1, 1), 53);
    }
}
