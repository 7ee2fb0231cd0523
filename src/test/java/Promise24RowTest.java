/** Promise 24, row: the least and the greatest sale, the first and the eighth, refusals and their order. */
public final class Promise24RowTest {
    public static void main(String[] args) {
        leastSale();
        greatestSale();
        firstAndEighth();
        fullRefusesAll();
        belowIsToldAheadOfFull();
        whatNamesNobodyComes();
        Due.end("Promise24RowTest");
    }

    private static GoodsDownhill full() {
        GoodsDownhill x = Edge.busy();
        x.judge();
        for (int n = 0; n < 8; n++) {
            x.row(10);
        }
        return x;
    }

    private static void leastSale() {
        Due.due("row(0)", new GoodsDownhill().row(0), 1);
        Edge.refused("row(-1)", -4, x -> x.row(-1));
        Edge.refused("row least", -4, x -> x.row(Edge.LEAST));
    }

    private static void greatestSale() {
        Due.due("row(999)", new GoodsDownhill().row(999), 1);
        Edge.refused("row(1000)", -6, x -> x.row(1000));
        Edge.refused("row greatest", -6, x -> x.row(Edge.GREATEST));
    }

    private static void firstAndEighth() {
        GoodsDownhill x = new GoodsDownhill();
        for (int n = 1; n <= 8; n++) {
            Due.due("in the row", x.count(7), n - 1);
            Due.due("row the " + n + "th", x.row(n), n);
        }
        Due.due("row the ninth", x.row(9), -6);
        Due.due("in the row", x.count(7), 8);
    }

    private static void fullRefusesAll() {
        int[] sales = {0, 10, 999, 1000, Edge.GREATEST};
        for (int sale : sales) {
            Edge.refused("row(" + sale + ") when full", -6, Promise24RowTest::full, x -> x.row(sale));
        }
    }

    private static void belowIsToldAheadOfFull() {
        Edge.refused("row(-1) when full", -4, Promise24RowTest::full, x -> x.row(-1));
        Edge.refused("row least when full", -4, Promise24RowTest::full, x -> x.row(Edge.LEAST));
    }

    /** Whether a told sale can be is for judge() to say. */
    private static void whatNamesNobodyComes() {
        GoodsDownhill x = Edge.idle(2);
        int[] sales = {0, 110, 20, 200, 13, 999};
        for (int i = 0; i < sales.length; i++) {
            Due.due("row(" + sales[i] + ")", x.row(sales[i]), i + 1);
        }
    }
}
