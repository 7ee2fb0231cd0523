/** Promise 25, judge: an empty and a full row, the first and the last that can't be, what names nobody. */
public final class Promise25JudgeTest {
    public static void main(String[] args) {
        emptyRow();
        fullRow();
        eachPlace();
        firstOfSeveral();
        oneBehindTheOther();
        justThePrice();
        roomInStore();
        namesNobody();
        rowHasNoneThen();
        inMindAlone();
        Due.end("Promise25JudgeTest");
    }

    /** House 0 above house 1 has so many pieces of good 0; house 1 has so much coin. */
    private static GoodsDownhill two(int pieces, int coin) {
        GoodsDownhill x = Due.with(Due.house(0, 0, 50, "0" + pieces, "10", 0) + Due.house(0, 0, 40, "10", "10", coin));
        x.week();
        return x;
    }

    private static int judged(GoodsDownhill x, int... sales) {
        for (int sale : sales) {
            x.row(sale);
        }
        return x.judge();
    }

    private static void emptyRow() {
        Due.due("without houses", new GoodsDownhill().judge(), -9);
        Due.due("with houses", two(9, 9).judge(), -9);
        Due.due("no refusal", two(9, 9).count(13), 0);
    }

    private static void fullRow() {
        Due.due("all eight", judged(two(8, 8), 10, 10, 10, 10, 10, 10, 10, 10), -9);
        Due.due("one piece too few", judged(two(7, 8), 10, 10, 10, 10, 10, 10, 10, 10), 7);
        Due.due("one coin too few", judged(two(8, 7), 10, 10, 10, 10, 10, 10, 10, 10), 7);
    }

    private static void eachPlace() {
        for (int place = 0; place < 8; place++) {
            GoodsDownhill x = two(9, 99);
            for (int i = 0; i < 8; i++) {
                x.row(i == place ? 100 : 10);
            }
            // Behind the first sale house 1 has a piece, but may not sell it up.
            Due.due("the " + place + "th", x.judge(), place);
        }
    }

    private static void firstOfSeveral() {
        Due.due("the first", judged(two(9, 9), 999, 999), 0);
        Due.due("the second", judged(two(9, 9), 10, 999, 10, 999), 1);
    }

    private static void oneBehindTheOther() {
        GoodsDownhill x = two(1, 5);
        x.law(2);
        Due.due("to and back", judged(x, 10, 100, 10, 100), -9);
        Due.due("back ahead of to", judged(x, 100, 10), 0);
        Due.due("to and to", judged(x, 10, 10), 1);
    }

    private static void justThePrice() {
        GoodsDownhill x = two(9, 9);
        x.price(0, 9);
        Due.due("just the price", judged(x, 10), -9);
        Due.due("no price left", judged(x, 10, 10), 1);
        Due.due("just the price", judged(two(9, 1), 10), -9);
        Due.due("no coin", judged(two(9, 0), 10), 0);
    }

    private static void roomInStore() {
        GoodsDownhill x = Due.with(Due.house(0, 0, 50, "01", "10", 0) + Due.house(0, 0, 40, "07", "10", 9));
        for (int w = 0; w < 14; w++) {
            x.week();
        }
        Due.due("the 99th", judged(x, 10), -9);
        Due.due("the 100th", judged(x, 10, 10), 1);
    }

    private static void namesNobody() {
        int[] sales = {0, 110, 20, 200, 210, 900, 13, 19, 999, 990};
        for (int sale : sales) {
            GoodsDownhill x = two(9, 9);
            Due.due("judge " + sale, judged(x, sale), 0);
            Due.due("judge 10, " + sale, judged(x, 10, sale), 1);
            Due.due("no refusal -1", x.count(11), 0);
            Due.due("no refusal -3", x.count(13), 0);
        }
        Due.due("without houses", judged(new GoodsDownhill(), 10), 0);
        GoodsDownhill six = Edge.idle(0);
        Due.tell(six, Due.house(0, 0, 50, "29", "00", 0).repeat(5) + Due.house(0, 0, 40, "00", "00", 9));
        six.week();
        Due.due("the last house", judged(six, 452), -9);
        Due.due("one behind the last", judged(six, 462), 0);
    }

    private static void rowHasNoneThen() {
        GoodsDownhill x = two(9, 9);
        Due.due("all can be", judged(x, 10, 10), -9);
        Due.due("none then", x.count(7), 0);
        Due.due("the first can't be", judged(x, 999, 10), 0);
        Due.due("none then", x.count(7), 0);
        Due.due("the row begins again", x.row(10), 1);
        Due.due("and is looked at alone", x.judge(), -9);
    }

    /** What judge() brings is the same as if the row had never been told. */
    private static void inMindAlone() {
        Edge.asked("judge", -9, () -> two(9, 9), x -> judged(x, 10, 10, 10));
        Edge.asked("judge", 1, () -> two(9, 9), x -> judged(x, 10, 100));
    }
}
