/** Promises 24, 25 and 27 to 29: rows of sales, the image, what is counted. */
public final class RowAndImageTest {
    public static void main(String[] args) {
        row();
        judge();
        judgeOneBehindTheOther();
        judgeWhatIsNotThere();
        imageAndRestore();
        imageLeavesOut();
        imageOfFewerHouses();
        count();
        Due.end("RowAndImageTest");
    }

    /** House 0 has two pieces of good 0 and stands above 1, which stands above 2. */
    private static GoodsDownhill stairs() {
        GoodsDownhill x = Due.with(Due.house(0, 0, 50, "02", "10", 0) + Due.house(0, 0, 40, "10", "10", 9)
            + Due.house(0, 0, 30, "10", "10", 1));
        x.week();
        return x;
    }

    private static void row() {
        GoodsDownhill x = new GoodsDownhill();
        Due.due("row(-1)", x.row(-1), -4);
        Due.due("row(1000)", x.row(1000), -6);
        Due.due("row(0)", x.row(0), 1);
        Due.due("row(999)", x.row(999), 2);
        for (int n = 3; n <= 8; n++) {
            Due.due("row the " + n + "th", x.row(10), n);
        }
        Due.due("row the 9th", x.row(10), -6);
        Due.due("row(-1) when full", x.row(-1), -4);
        Due.due("in the row", x.count(7), 8);
        Due.due("refused -4", x.count(14), 2);
        Due.due("refused -6", x.count(16), 2);
        Due.due("judge", x.judge(), 0);
        Due.due("the row has none then", x.count(7), 0);
        Due.due("row again", x.row(10), 1);
    }

    private static void judge() {
        GoodsDownhill x = stairs();
        Due.due("none", x.judge(), -9);
        x.row(10);
        x.row(20);
        Due.due("both", x.judge(), -9);
        Due.due("the row has none then", x.count(7), 0);
        Due.due("none", x.judge(), -9);
        x.row(10);
        x.row(10);
        x.row(10);
        x.row(20);
        Due.due("just two pieces", x.judge(), 2);
        Due.due("the row has none then", x.count(7), 0);
        x.row(20);
        x.row(20);
        Due.due("just one coin", x.judge(), 1);
        Due.due("in mind alone", x.store(0, 0), 2);
        Due.due("in mind alone", x.house(1, 9), 9);
        Due.due("no refusals", x.count(13), 0);
    }

    private static void judgeOneBehindTheOther() {
        GoodsDownhill x = stairs();
        x.row(120);
        Due.due("1 has none yet", x.judge(), 0);
        x.row(10);
        x.row(120);
        Due.due("1 has one then", x.judge(), -9);
        x.row(10);
        x.row(120);
        x.row(10);
        x.row(120);
        Due.due("2 has no coin then", x.judge(), 3);
        x.row(10);
        x.row(100);
        Due.due("not up", x.judge(), 1);
        x.law(2);
        x.row(10);
        x.row(100);
        x.row(10);
        x.row(100);
        x.row(20);
        x.row(20 + 180);
        x.row(120);
        Due.due("to and fro, till 1 has none", x.judge(), 6);
    }

    private static void judgeWhatIsNotThere() {
        GoodsDownhill x = stairs();
        int[] sales = {0, 30, 310, 910, 13, 19, 999, 11};
        for (int sale : sales) {
            x.row(10);
            x.row(sale);
            Due.due("judge 10, " + sale, x.judge(), 1);
        }
        Due.due("no refusals", x.count(11), 0);
    }

    private static void imageAndRestore() {
        GoodsDownhill x = stairs();
        Due.due("none yet", x.restore(), -3);
        x.owe(0, 1, 4);
        Due.due("image", x.image(), 1);
        x.owe(0, 1, 5);
        x.owe(2, 1, 5);
        x.law(2);
        x.price(0, 7);
        x.sale(0, 1, 0);
        x.mule(1, 2, 1);
        x.week();
        Due.tell(x, Due.house(0, 0, 50, "00", "00", 500) + "p29;");
        Due.due("houses", x.count(0), 4);
        for (int again = 0; again < 2; again++) {
            Due.due("restore", x.restore(), 1);
            Due.due("houses", x.count(0), 3);
            Due.due("WEEK", x.count(1), 1);
            Due.due("law", x.count(2), 0);
            Due.due("coin", x.count(3), 10);
            Due.due("coin of 1", x.house(1, 9), 9);
            Due.due("stores", x.count(4), 2);
            Due.due("store(0, 0)", x.store(0, 0), 2);
            Due.due("debts", x.count(5), 4);
            Due.due("owed(1)", x.owed(1), 4);
            Due.due("the mule can go", x.count(8), 0);
            Due.due("price 0", x.price(0, 3), 1);
            Due.due("price 2", x.price(2, 3), 1);
            Due.due("mule", x.mule(1, 0, 2), 53);
            x.week();
        }
        Due.due("a later image", x.image(), 2);
        x.week();
        Due.due("restore", x.restore(), 2);
        Due.due("weeks till the mule can go", x.count(8), 51);
        Due.due("not yet", x.mule(1, 0, 2), -3);
    }

    private static void imageLeavesOut() {
        GoodsDownhill x = stairs();
        x.image();
        x.row(10);
        Due.feed(x, "l1");
        x.house(9, 9);
        Due.due("restore", x.restore(), 1);
        Due.due("letters stay", x.count(6), 2);
        Due.due("the row stays", x.count(7), 1);
        Due.due("refusals stay", x.count(11), 1);
        x.feed(';');
        Due.due("mountain", x.mountain(), 1);
        Due.due("judge", x.judge(), 0);
        x.image();
        Due.due("an image is taken of what is", x.count(2), 1);
        x.law(0);
        x.restore();
        Due.due("law", x.count(2), 1);
    }

    /** A place that a house left by being restored holds nothing of it for the next one. */
    private static void imageOfFewerHouses() {
        GoodsDownhill x = new GoodsDownhill();
        Due.due("image of nothing", x.image(), 0);
        Due.tell(x, Due.house(0, 0, 50, "09", "10", 50) + Due.house(0, 0, 40, "29", "09", 60) + "d0150;d109;");
        x.week();
        Due.due("restore", x.restore(), 0);
        Due.due("houses", x.count(0), 0);
        Due.due("stores", x.count(4), 0);
        Due.due("debts", x.count(5), 0);
        Due.due("nobody", x.house(0, 0), -1);
        Due.tell(x, Due.house(1, 2, 50, "00", "10", 5) + Due.house(0, 0, 40, "00", "00", 6));
        Due.due("coin", x.count(3), 11);
        Due.due("stores", x.count(4), 0);
        Due.due("debts", x.count(5), 0);
        Due.due("kind", x.house(0, 0), 1);
        Due.due("owed", x.owed(0), 0);
    }

    private static void count() {
        GoodsDownhill x = Due.with(Due.house(0, 0, 50, "02", "10", 300) + Due.house(0, 0, 40, "13", "20", 9) + "d0190;l2;");
        x.week();
        x.week();
        x.mule(0, 1, 1);
        x.week();
        Due.feed(x, "hpl");
        x.row(1);
        x.row(2);
        int[] want = {2, 3, 2, 309, 15, 90, 3, 2, 51};
        for (int what = 0; what < want.length; what++) {
            Due.due("count(" + what + ")", x.count(what), want[what]);
        }
        x.house(2, 0);
        x.law(3);
        x.law(4);
        x.mule(0, 1, 1);
        x.mule(0, 1, 1);
        x.mule(0, 1, 1);
        x.owe(0, 1, -1);
        x.owe(0, 1, 100);
        x.owe(0, 1, 100);
        int[] refusals = {1, 2, 3, 1, 0, 2};
        for (int i = 0; i < refusals.length; i++) {
            Due.due("count(" + (11 + i) + ")", x.count(11 + i), refusals[i]);
        }
        int[] others = {-1, 9, 10, 17, Integer.MIN_VALUE, Integer.MAX_VALUE, -11};
        for (int what : others) {
            Due.due("count(" + what + ")", x.count(what), -9);
        }
        Due.due("-9 is no refusal", x.count(12), 2);
    }
}
