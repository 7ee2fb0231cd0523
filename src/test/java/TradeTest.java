/** Promises 5 to 10: stores, prices, laws, what is lawful, sales, weeks. */
public final class TradeTest {
    public static void main(String[] args) {
        laws();
        levels();
        prices();
        sale();
        saleThatCannotBe();
        fullStore();
        week();
        whoSells();
        whoWantsSellsNone();
        buysWhatItLacks();
        firstComeFirstServed();
        pricesInWeeks();
        makesUpTo99();
        lastWeek();
        Due.end("TradeTest");
    }

    private static void laws() {
        GoodsDownhill x = Due.with(Due.house(0, 9, 50, "00", "00", 0) + Due.house(0, 9, 40, "00", "00", 0)
            + Due.house(0, 9, 40, "00", "00", 0));
        Due.due("down to lower", x.lawful(0, 1), 1);
        Due.due("down to higher", x.lawful(1, 0), 0);
        Due.due("down to as high", x.lawful(1, 2), 0);
        Due.due("law(1)", x.law(1), 0);
        Due.due("up to lower", x.lawful(0, 1), 0);
        Due.due("up to higher", x.lawful(1, 0), 1);
        Due.due("up to as high", x.lawful(1, 2), 0);
        Due.due("law(2)", x.law(2), 1);
        Due.due("any to lower", x.lawful(0, 1), 1);
        Due.due("any to higher", x.lawful(1, 0), 1);
        Due.due("any to as high", x.lawful(1, 2), 1);
        Due.due("law(2)", x.law(2), 2);
        Due.due("law(3)", x.law(3), -2);
        Due.due("law(-1)", x.law(-1), -2);
        Due.due("law is", x.count(2), 2);
        Due.due("to itself", x.lawful(0, 0), -1);
        Due.due("to nobody", x.lawful(0, 3), -1);
        Due.due("from nobody", x.lawful(-1, 0), -1);
    }

    private static void levels() {
        GoodsDownhill x = Due.with(Due.house(0, 9, 30, "00", "00", 0) + Due.house(1, 1, 30, "00", "00", 0)
            + Due.house(2, 1, 30, "00", "00", 0) + Due.house(3, 1, 30, "00", "00", 0));
        Due.tell(x, Due.house(4, 1, 31, "00", "00", 0) + Due.house(5, 1, 31, "00", "00", 0));
        int[][] down = {{0, 1, 0, 0, 0, 1}, {0, 0, 0, 0, 0, 1}, {1, 1, 0, 0, 1, 1}, {0, 1, 0, 0, 0, 1},
            {1, 1, 1, 0, 0, 1}, {1, 1, 1, 0, 1, 0}};
        int[][] up = {{0, 0, 0, 1, 0, 0}, {0, 0, 0, 1, 0, 0}, {0, 0, 0, 1, 0, 0}, {0, 0, 0, 0, 0, 0},
            {0, 0, 0, 1, 0, 0}, {0, 0, 0, 1, 0, 0}};
        for (int a = 0; a < 6; a++) {
            for (int b = 0; b < 6; b++) {
                x.law(0);
                Due.due("down lawful(" + a + ", " + b + ")", x.lawful(a, b), a == b ? -1 : down[a][b]);
                x.law(1);
                Due.due("up lawful(" + a + ", " + b + ")", x.lawful(a, b), a == b ? -1 : up[a][b]);
            }
        }
    }

    private static void prices() {
        GoodsDownhill x = new GoodsDownhill();
        Due.due("price(0, 9)", x.price(0, 9), 1);
        Due.due("price(0, 1)", x.price(0, 1), 9);
        Due.due("price(2, 5)", x.price(2, 5), 1);
        Due.due("price(3, 5)", x.price(3, 5), -1);
        Due.due("price(-1, 5)", x.price(-1, 5), -1);
        Due.due("price(2, 0)", x.price(2, 0), -4);
        Due.due("price(2, 10)", x.price(2, 10), -6);
        Due.due("price(3, 0)", x.price(3, 0), -1);
        Due.due("price(2, 1)", x.price(2, 1), 5);
        Due.due("price(1, 1)", x.price(1, 1), 1);
    }

    /** House 0 makes three pieces of good 1 and stands above house 1, which has 10 coins and wants nothing. */
    private static GoodsDownhill twoHouses() {
        GoodsDownhill x = Due.with(Due.house(0, 0, 50, "13", "00", 0) + Due.house(0, 0, 40, "00", "00", 10) + "p14;");
        x.week();
        return x;
    }

    private static void sale() {
        GoodsDownhill x = twoHouses();
        Due.due("sale", x.sale(0, 1, 1), 6);
        Due.due("coin of the seller", x.house(0, 9), 4);
        Due.due("coin of the buyer", x.house(1, 9), 6);
        Due.due("store of the seller", x.store(0, 1), 2);
        Due.due("store of the buyer", x.store(1, 1), 1);
        Due.due("store of another good", x.store(1, 0), 0);
        Due.due("sale", x.sale(0, 1, 1), 2);
        Due.due("no price left", x.sale(0, 1, 1), -3);
        Due.due("store of nobody", x.store(2, 0), -1);
        Due.due("store of nobody", x.store(-1, 0), -1);
        Due.due("store of nothing", x.store(0, 3), -1);
        Due.due("store of nothing", x.store(0, -1), -1);
        Due.due("all stores", x.count(4), 3);
        Due.due("all coin", x.count(3), 10);
        x.price(1, 2);
        Due.due("just the price left", x.sale(0, 1, 1), 0);
    }

    private static void saleThatCannotBe() {
        GoodsDownhill x = twoHouses();
        Due.due("one house twice", x.sale(0, 0, 1), -1);
        Due.due("no such seller", x.sale(2, 1, 1), -1);
        Due.due("no such buyer", x.sale(0, -1, 1), -1);
        Due.due("no such good", x.sale(0, 1, 3), -1);
        Due.due("no such good", x.sale(0, 1, -1), -1);
        Due.due("nothing in store", x.sale(0, 1, 0), -3);
        x.sale(0, 1, 1);
        Due.due("not lawful", x.sale(1, 0, 1), -3);
        x.law(1);
        Due.due("not lawful", x.sale(0, 1, 1), -3);
        Due.due("lawful now", x.sale(1, 0, 1), 0);
        Due.due("refused -1", x.count(11), 5);
        Due.due("refused -3", x.count(13), 3);
    }

    private static void fullStore() {
        GoodsDownhill x = Due.with(Due.house(0, 0, 50, "09", "00", 0) + Due.house(0, 0, 40, "09", "00", 9));
        for (int w = 0; w < 10; w++) {
            x.week();
        }
        for (int i = 0; i < 9; i++) {
            Due.due("sale " + i, x.sale(0, 1, 0), 8 - i);
        }
        Due.due("store of the buyer", x.store(1, 0), 99);
        x.mule(0, 1, 5);
        Due.due("no room in store", x.sale(0, 1, 0), -3);
        Due.due("coin of the buyer", x.house(1, 9), 5);
    }

    private static void week() {
        GoodsDownhill x = Due.with(Due.house(0, 0, 50, "05", "13", 100) + Due.house(0, 0, 40, "11", "02", 20));
        Due.due("week", x.week(), 2);
        Due.due("WEEK", x.count(1), 1);
        Due.due("store(0, 0)", x.store(0, 0), 3);
        Due.due("store(0, 1)", x.store(0, 1), 0);
        Due.due("store(1, 0)", x.store(1, 0), 0);
        Due.due("store(1, 1)", x.store(1, 1), 1);
        Due.due("coin of 0", x.house(0, 9), 102);
        Due.due("coin of 1", x.house(1, 9), 18);
        x.law(2);
        Due.due("week", x.week(), 4);
        Due.due("store(0, 0)", x.store(0, 0), 6);
        Due.due("store(1, 1)", x.store(1, 1), 0);
        Due.due("coin of 0", x.house(0, 9), 102);
        Due.due("WEEK", x.count(1), 2);
    }

    private static void whoSells() {
        GoodsDownhill x = Due.with(Due.house(0, 0, 90, "02", "00", 0) + Due.house(0, 0, 90, "04", "00", 0)
            + Due.house(0, 0, 10, "10", "03", 50));
        Due.due("week", x.week(), 3);
        Due.due("the one with the most, of several the least", x.house(0, 9), 1);
        Due.due("the one with the most, piece by piece", x.house(1, 9), 2);
        Due.due("store(0, 0)", x.store(0, 0), 1);
        Due.due("store(1, 0)", x.store(1, 0), 2);
        Due.due("coin of the buyer", x.house(2, 9), 47);
    }

    private static void whoWantsSellsNone() {
        GoodsDownhill x = Due.with(Due.house(0, 0, 90, "09", "01", 0) + Due.house(0, 0, 80, "03", "00", 0)
            + Due.house(0, 0, 10, "10", "05", 50));
        Due.due("week", x.week(), 4);
        Due.due("who wants it sells none", x.house(0, 9), 0);
        Due.due("who wants none of it sells", x.house(1, 9), 3);
        Due.due("store(0, 0)", x.store(0, 0), 8);
        Due.due("it may sell it by a sale", x.sale(0, 2, 0), 46);
    }

    private static void buysWhatItLacks() {
        GoodsDownhill x = Due.with(Due.house(0, 0, 90, "09", "10", 0) + Due.house(0, 0, 10, "10", "02", 0));
        Due.due("no coin", x.week(), 0);
        Due.tell(x, Due.house(0, 0, 95, "10", "10", 90));
        x.mule(2, 1, 50);
        for (int i = 0; i < 5; i++) {
            x.sale(0, 1, 0);
        }
        Due.due("more than it wants", x.week(), 2);
        Due.due("coin", x.house(1, 9), 45);
        Due.due("store", x.store(1, 0), 3);
        Due.due("more than it wants", x.week(), 2);
        Due.due("coin", x.house(1, 9), 45);
        Due.due("store", x.store(1, 0), 1);
        Due.due("one of two", x.week(), 2);
        Due.due("coin", x.house(1, 9), 44);
        Due.due("store", x.store(1, 0), 0);
    }

    private static void firstComeFirstServed() {
        GoodsDownhill x = Due.with(Due.house(0, 0, 20, "10", "03", 9) + Due.house(0, 0, 10, "10", "03", 9)
            + Due.house(0, 0, 90, "04", "00", 0));
        Due.due("week", x.week(), 4);
        Due.due("house 0 takes all it wants", x.house(0, 9), 6);
        Due.due("house 1 takes what is left", x.house(1, 9), 8);
        GoodsDownhill own = Due.with(Due.house(0, 0, 50, "03", "05", 9));
        Due.due("its own makes serve it", own.week(), 3);
        Due.due("and are used", own.store(0, 0), 0);
    }

    private static void pricesInWeeks() {
        GoodsDownhill x = Due.with(Due.house(0, 0, 90, "29", "00", 0) + Due.house(0, 0, 10, "00", "29", 17) + "p25;");
        Due.due("week", x.week(), 3);
        Due.due("coin of the buyer", x.house(1, 9), 2);
        Due.due("coin of the seller", x.house(0, 9), 15);
        Due.due("week", x.week(), 0);
        x.law(1);
        x.price(2, 1);
        Due.due("not lawful", x.week(), 0);
    }

    private static void makesUpTo99() {
        GoodsDownhill x = Due.with(Due.house(0, 0, 90, "28", "00", 0));
        for (int w = 1; w <= 14; w++) {
            x.week();
            Due.due("store behind " + w, x.store(0, 2), Math.min(99, 8 * w));
        }
    }

    /** Beyond the calls that are promised; but the refusal is, and nothing keeps it from being seen. */
    private static void lastWeek() {
        GoodsDownhill x = new GoodsDownhill();
        for (int w = 0; w < 9999; w++) {
            x.week();
        }
        Due.due("WEEK", x.count(1), 9999);
        Due.due("week", x.week(), -6);
        Due.due("WEEK", x.count(1), 9999);
        Due.due("refused -6", x.count(16), 1);
    }
}
