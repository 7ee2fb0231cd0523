/** Promise 9, sale: each thing that a sale needs, just there and just not, refusals and their order. */
public final class Promise09SaleTest {
    public static void main(String[] args) {
        lawful();
        lastPiece();
        justThePrice();
        roomInStore();
        roomForCoin();
        wantsDoNotMatter();
        noSuchHouse();
        oneHouseTwice();
        noSuchGood();
        whatCannotBeChangesNothing();
        nobodyIsToldAheadOfState();
        Due.end("Promise09SaleTest");
    }

    /** House 0 stands one above 1 and has so many pieces of a good. */
    private static GoodsDownhill seller(int pieces, int good, int coin, int price) {
        GoodsDownhill x = Due.with(Due.house(0, 0, 41, "" + good + pieces, "00", 0)
            + Due.house(0, 0, 40, "00", "00", coin) + "p" + good + price + ";");
        x.week();
        return x;
    }

    private static void lawful() {
        GoodsDownhill x = seller(2, 0, 9, 1);
        Due.due("one below", x.sale(0, 1, 0), 8);
        Due.due("one above", x.sale(1, 0, 0), -3);
        x.law(1);
        Due.due("one below", x.sale(0, 1, 0), -3);
        Due.tell(x, Due.house(0, 0, 40, "00", "00", 5));
        Due.due("as high", x.sale(1, 2, 0), -3);
        x.law(0);
        Due.due("as high", x.sale(1, 2, 0), -3);
        x.law(2);
        Due.due("as high by any", x.sale(1, 2, 0), 4);
    }

    private static void lastPiece() {
        for (int good = 0; good < 3; good++) {
            GoodsDownhill x = seller(1, good, 9, 1);
            Due.due("the last piece", x.sale(0, 1, good), 8);
            Due.due("store of the seller", x.store(0, good), 0);
            Due.due("store of the buyer", x.store(1, good), 1);
            Due.due("none left", x.sale(0, 1, good), -3);
            Due.due("none of another", x.sale(0, 1, (good + 1) % 3), -3);
        }
    }

    private static void justThePrice() {
        for (int price = 1; price <= 9; price++) {
            GoodsDownhill x = seller(1, 2, price, price);
            Due.due("just the price", x.sale(0, 1, 2), 0);
            Due.due("coin of the seller", x.house(0, 9), price);
            Due.due("coin of the buyer", x.house(1, 9), 0);
            int lacking = price - 1;
            int at = price;
            Edge.refused("one less than the price", -3, () -> seller(1, 2, lacking, at), y -> y.sale(0, 1, 2));
        }
    }

    /** House 1 makes seven a week of its own: 98 behind 14 weeks. */
    private static GoodsDownhill almostFull() {
        GoodsDownhill x = Due.with(Due.house(0, 0, 41, "02", "10", 0) + Due.house(0, 0, 40, "07", "10", 9));
        for (int w = 0; w < 14; w++) {
            x.week();
        }
        return x;
    }

    private static void roomInStore() {
        GoodsDownhill x = almostFull();
        Due.due("98 in store", x.store(1, 0), 98);
        Due.due("the 99th", x.sale(0, 1, 0), 8);
        Due.due("99 in store", x.store(1, 0), 99);
        Due.due("the 100th", x.sale(0, 1, 0), -3);
        Due.due("coin stays", x.house(1, 9), 8);
        Edge.refused("a full store", -3, () -> {
            GoodsDownhill full = almostFull();
            full.sale(0, 1, 0);
            return full;
        }, y -> y.sale(0, 1, 0));
    }

    private static void roomForCoin() {
        for (int price = 1; price <= 9; price += 4) {
            GoodsDownhill x = seller(2, 0, 50, price);
            Inside.putCoin(x, 0, 9999 - price);
            Due.due("just room", x.sale(0, 1, 0), 50 - price);
            Due.due("coin of the seller", x.house(0, 9), 9999);
            Due.due("no room", x.sale(0, 1, 0), -3);
            Inside.putCoin(x, 0, 10000 - price);
            Due.due("one too much", x.sale(0, 1, 0), -3);
            Due.due("coin of the seller", x.house(0, 9), 10000 - price);
            Due.due("coin of the buyer", x.house(1, 9), 50 - price);
        }
    }

    /** In weeks who wants a good sells none of it; a sale asks for no wants. */
    private static void wantsDoNotMatter() {
        GoodsDownhill x = Due.with(Due.house(0, 0, 41, "09", "01", 0) + Due.house(0, 0, 40, "00", "10", 9));
        x.week();
        Due.due("who wants it sells", x.sale(0, 1, 0), 8);
    }

    private static void noSuchHouse() {
        for (int h : Edge.NO_HOUSE) {
            Edge.refused("sale(" + h + ", 1, 0)", -1, x -> x.sale(h, 1, 0));
            Edge.refused("sale(0, " + h + ", 0)", -1, x -> x.sale(0, h, 0));
        }
    }

    private static void oneHouseTwice() {
        for (int h = 0; h < 3; h++) {
            int asked = h;
            Edge.refused("sale(" + h + ", " + h + ", 0)", -1, x -> x.sale(asked, asked, 0));
        }
    }

    private static void noSuchGood() {
        for (int good : Edge.NO_GOOD) {
            Edge.refused("sale(0, 1, " + good + ")", -1, x -> x.sale(0, 1, good));
        }
    }

    private static void whatCannotBeChangesNothing() {
        Edge.refused("nothing in store", -3, x -> x.sale(0, 1, 2));
        Edge.refused("not lawful", -3, x -> x.sale(2, 0, 2));
    }

    private static void nobodyIsToldAheadOfState() {
        Edge.refused("sale(2, 2, 2)", -1, x -> x.sale(2, 2, 2));
        Edge.refused("sale(2, 0, 3)", -1, x -> x.sale(2, 0, 3));
        Edge.refused("sale(3, 0, 3)", -1, x -> x.sale(3, 0, 3));
    }
}
