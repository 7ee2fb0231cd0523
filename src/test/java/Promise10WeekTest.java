/** Promise 10, week: what is made, bought and used at its ends, who sells, and the last week. */
public final class Promise10WeekTest {
    public static void main(String[] args) {
        noHouses();
        makesUpTo99();
        makesAndWantsNothing();
        buysWhatItLacks();
        justThePrice();
        lastPieces();
        lawfulAlone();
        sellerWithTheMost();
        wantsOfAnotherGoodDoNotMatter();
        whoWantsNoneOfItSells();
        sellerWithoutRoomForCoin();
        byNumbers();
        allMakeFirst();
        coinOfASaleIsThereAtOnce();
        lastWeek();
        lastWeekIsRefused();
        Due.end("Promise10WeekTest");
    }

    private static void noHouses() {
        GoodsDownhill x = new GoodsDownhill();
        Due.due("week", x.week(), 0);
        Due.due("week", x.week(), 0);
        Due.due("WEEK", x.count(1), 2);
    }

    private static void makesUpTo99() {
        GoodsDownhill x = Due.with(Due.house(0, 0, 50, "17", "00", 0) + Due.house(0, 0, 50, "29", "00", 0));
        for (int w = 0; w < 14; w++) {
            x.week();
        }
        Due.due("98", x.store(0, 1), 98);
        Due.due("99", x.store(1, 2), 99);
        x.week();
        Due.due("one of seven finds room", x.store(0, 1), 99);
        Due.due("none of nine finds room", x.store(1, 2), 99);
        x.week();
        Due.due("none finds room", x.store(0, 1), 99);
        Due.due("WEEK", x.count(1), 16);
    }

    private static void makesAndWantsNothing() {
        GoodsDownhill x = Due.with(Due.house(0, 0, 50, "09", "10", 0) + Due.house(0, 0, 40, "10", "00", 99));
        Due.due("who wants 0 is served none", x.week(), 0);
        Due.due("and buys none", x.house(1, 9), 99);
        Due.due("who makes 0 has none", x.store(1, 1), 0);
        x.sale(0, 1, 0);
        Due.due("who wants 0 is served none of what it has", x.week(), 0);
        Due.due("and uses none", x.store(1, 0), 1);
    }

    /** House 1 wants three and has so many ahead of the week. */
    private static void lack(int has, int coin, int left) {
        GoodsDownhill x = Due.with(Due.house(0, 0, 50, "09", "10", 0) + Due.house(0, 0, 40, "10", "03", 0));
        x.week();
        Due.tell(x, Due.house(0, 0, 50, "10", "10", 50));
        x.mule(2, 1, 50);
        for (int i = 0; i < has; i++) {
            x.sale(0, 1, 0);
        }
        Due.due("has " + has + ": week", x.week(), 3);
        Due.due("has " + has + ": coin", x.house(1, 9), coin);
        Due.due("has " + has + ": store", x.store(1, 0), left);
    }

    private static void buysWhatItLacks() {
        lack(0, 47, 0);
        lack(2, 47, 0);
        lack(3, 47, 0);
        lack(4, 46, 1);
        lack(7, 43, 4);
    }

    private static void justThePrice() {
        int[] coin = {0, 4, 5, 9, 10, 44, 45, 46};
        int[] served = {0, 0, 1, 1, 2, 8, 9, 9};
        for (int i = 0; i < coin.length; i++) {
            GoodsDownhill x = Due.with(Due.house(0, 0, 50, "09", "10", 0) + Due.house(0, 0, 40, "10", "09", coin[i]) + "p05;");
            Due.due("with " + coin[i], x.week(), served[i]);
            Due.due("coin left", x.house(1, 9), coin[i] - 5 * served[i]);
            Due.due("coin of the seller", x.house(0, 9), 5 * served[i]);
        }
    }

    private static void lastPieces() {
        for (int pieces = 0; pieces <= 4; pieces++) {
            GoodsDownhill x = Due.with(Due.house(0, 0, 50, "0" + pieces, "10", 0) + Due.house(0, 0, 40, "10", "03", 99));
            Due.due("of " + pieces, x.week(), Math.min(3, pieces));
            Due.due("left of " + pieces, x.store(0, 0), Math.max(0, pieces - 3));
        }
    }

    private static void lawfulAlone() {
        int[] heights = {49, 50, 51};
        int[] down = {2, 0, 0};
        int[] up = {0, 0, 2};
        for (int i = 0; i < 3; i++) {
            for (int law = 0; law < 3; law++) {
                GoodsDownhill x = Due.with(Due.house(0, 0, 50, "09", "10", 0) + Due.house(0, 0, heights[i], "10", "02", 9)
                    + "l" + law + ";");
                int want = law == 0 ? down[i] : law == 1 ? up[i] : 2;
                Due.due("law " + law + ", at " + heights[i], x.week(), want);
            }
        }
    }

    private static void sellerWithTheMost() {
        int[][] makes = {{3, 3}, {3, 4}, {4, 3}, {2, 5}, {0, 1}};
        int[][] paid = {{2, 1}, {1, 2}, {2, 1}, {0, 3}, {0, 1}};
        for (int i = 0; i < makes.length; i++) {
            GoodsDownhill x = Due.with(Due.house(0, 0, 50, "0" + makes[i][0], "10", 0)
                + Due.house(0, 0, 90, "0" + makes[i][1], "10", 0) + Due.house(0, 0, 40, "10", "03", 9));
            x.week();
            Due.due("paid to 0 in " + i, x.house(0, 9), paid[i][0]);
            Due.due("paid to 1 in " + i, x.house(1, 9), paid[i][1]);
        }
    }

    private static void wantsOfAnotherGoodDoNotMatter() {
        GoodsDownhill x = Due.with(Due.house(0, 0, 50, "09", "19", 0) + Due.house(0, 0, 40, "10", "02", 9));
        Due.due("who wants another good sells", x.week(), 2);
    }

    private static void whoWantsNoneOfItSells() {
        GoodsDownhill none = Due.with(Due.house(0, 0, 50, "09", "00", 0) + Due.house(0, 0, 40, "10", "02", 9));
        Due.due("who wants 0 of it sells", none.week(), 2);
        GoodsDownhill one = Due.with(Due.house(0, 0, 50, "09", "01", 0) + Due.house(0, 0, 40, "10", "02", 9));
        Due.due("who wants 1 of it sells none", one.week(), 1);
        Due.due("and keeps what it does not use", one.store(0, 0), 8);
    }

    private static void sellerWithoutRoomForCoin() {
        GoodsDownhill x = Due.with(Due.house(0, 0, 50, "09", "10", 0) + Due.house(0, 0, 90, "02", "10", 0)
            + Due.house(0, 0, 40, "10", "05", 99) + "p05;");
        Inside.putCoin(x, 0, 9994);
        Due.due("one of the one, two of the other", x.week(), 3);
        Due.due("no room for more coin", x.house(0, 9), 9999);
        Due.due("coin of the other", x.house(1, 9), 10);
        Inside.putCoin(x, 0, 9995);
        Due.due("none of the one", x.week(), 2);
        Due.due("coin stays", x.house(0, 9), 9995);
    }

    private static void byNumbers() {
        GoodsDownhill x = Due.with(Due.house(0, 0, 10, "10", "02", 9) + Due.house(0, 0, 20, "10", "02", 9)
            + Due.house(0, 0, 30, "10", "02", 9) + Due.house(0, 0, 90, "03", "10", 0));
        Due.due("week", x.week(), 3);
        Due.due("the first all", x.house(0, 9), 7);
        Due.due("the second one", x.house(1, 9), 8);
        Due.due("the third none", x.house(2, 9), 9);
    }

    /** House 5, the last one, has made what house 0, the first one, buys. */
    private static void allMakeFirst() {
        GoodsDownhill x = Edge.idle(0);
        Due.tell(x, Due.house(0, 0, 10, "10", "09", 9));
        for (int h = 1; h < 5; h++) {
            Due.tell(x, Due.house(0, 0, 10, "10", "10", 0));
        }
        Due.tell(x, Due.house(0, 0, 90, "09", "10", 0));
        Due.due("week", x.week(), 9);
        Due.due("coin of the last", x.house(5, 9), 9);
    }

    /** House 1 has no coin till house 0 buys of it. */
    private static void coinOfASaleIsThereAtOnce() {
        GoodsDownhill x = Due.with(Due.house(0, 0, 50, "01", "11", 1) + Due.house(0, 0, 40, "11", "01", 0) + "l2;");
        Due.due("week", x.week(), 2);
        Due.due("coin of 0", x.house(0, 9), 1);
        Due.due("coin of 1", x.house(1, 9), 0);
        GoodsDownhill y = Due.with(Due.house(0, 0, 40, "11", "01", 0) + Due.house(0, 0, 50, "01", "11", 1) + "l2;");
        Due.due("too late", y.week(), 1);
        Due.due("coin of 0", y.house(0, 9), 1);
    }

    /** More calls than are promised; but no other way leads there. */
    private static GoodsDownhill behindWeeks(int weeks) {
        GoodsDownhill x = Due.with(Due.house(0, 0, 50, "01", "01", 5));
        for (int w = 0; w < weeks; w++) {
            x.week();
        }
        return x;
    }

    private static void lastWeek() {
        GoodsDownhill x = behindWeeks(9998);
        Due.due("WEEK", x.count(1), 9998);
        Due.due("the last week", x.week(), 1);
        Due.due("WEEK", x.count(1), 9999);
        Due.due("no week more", x.week(), -6);
        Due.due("WEEK", x.count(1), 9999);
        Due.due("in mind weeks go on", x.served(60, 0), 60);
    }

    private static void lastWeekIsRefused() {
        Edge.refused("week behind 9999", -6, () -> behindWeeks(9999), GoodsDownhill::week);
    }
}
