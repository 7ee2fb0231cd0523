/** Promise 16, drift: behind 0, 100 and never, of several the least, refusals and their order. */
public final class Promise16DriftTest {
    public static void main(String[] args) {
        restsNow();
        behindAHundred();
        never();
        whereItRests();
        ofSeveralTheLeast();
        restsBetweenSales();
        inMindAlone();
        noSuchWhat();
        noHouses();
        otherIsToldFirst();
        Due.end("Promise16DriftTest");
    }

    /** House 1 buys one piece a week for one coin. */
    private static GoodsDownhill buyer(int coin) {
        return Due.with(Due.house(0, 0, 50, "01", "10", 0) + Due.house(0, 0, 40, "10", "01", coin));
    }

    private static void restsNow() {
        Due.due("one house", Edge.idle(1).drift(0), 0);
        Due.due("one house", Edge.idle(1).drift(1), 0);
        Due.due("no coin", buyer(0).drift(0), 0);
        Due.due("no coin", buyer(0).drift(1), 0);
        GoodsDownhill up = buyer(5);
        up.law(1);
        Due.due("no sale lawful", up.drift(0), 0);
        Due.due("no sale lawful", up.drift(1), 1);
    }

    private static void behindAHundred() {
        Due.due("behind 1", buyer(1).drift(0), 1);
        Due.due("behind 99", buyer(99).drift(0), 99);
        Due.due("behind 100", buyer(100).drift(0), 100);
        Due.due("the house behind 100", buyer(100).drift(1), 0);
    }

    private static void never() {
        Edge.asked("behind 101", -9, () -> buyer(101), x -> x.drift(0));
        Edge.asked("behind 101", -9, () -> buyer(101), x -> x.drift(1));
        GoodsDownhill round = Due.with(Due.house(0, 0, 50, "01", "11", 5) + Due.house(0, 0, 50, "11", "01", 5) + "l2;");
        Due.due("round and round", round.drift(0), -9);
        Due.due("round and round", round.drift(1), -9);
    }

    private static void whereItRests() {
        GoodsDownhill x = Due.with(Due.house(0, 0, 50, "01", "10", 0) + Due.house(0, 0, 40, "10", "01", 9)
            + Due.house(0, 0, 60, "20", "20", 8));
        Due.due("drift(0)", x.drift(0), 9);
        Due.due("who has it then", x.drift(1), 0);
        Due.due("not who has it now", x.house(0, 9), 0);
    }

    private static void ofSeveralTheLeast() {
        Due.due("all alike", Edge.idle(6).drift(1), 0);
        GoodsDownhill x = Due.with(Due.house(0, 0, 50, "00", "00", 4) + Due.house(0, 0, 50, "00", "00", 5)
            + Due.house(0, 0, 50, "00", "00", 5));
        Due.due("two alike", x.drift(1), 1);
        Due.tell(x, Due.house(0, 0, 50, "00", "00", 6));
        Due.due("the last one", x.drift(1), 3);
    }

    /** House 1 has enough for two weeks and buys again behind them: the first week without coin counts. */
    private static void restsBetweenSales() {
        GoodsDownhill x = Due.with(Due.house(0, 0, 50, "09", "10", 0) + Due.house(0, 0, 40, "10", "01", 9));
        x.week();
        x.sale(0, 1, 0);
        x.sale(0, 1, 0);
        Due.due("drift(0)", x.drift(0), 0);
        Due.due("drift(1)", x.drift(1), 1);
        Due.due("coin behind two weeks", x.behind(1, 2), 6);
        Due.due("coin behind three weeks", x.behind(1, 3), 5);
    }

    private static void inMindAlone() {
        Edge.asked("drift(0)", Edge.busy().drift(0), Edge::busy, x -> x.drift(0));
        Edge.asked("drift(1)", Edge.busy().drift(1), Edge::busy, x -> x.drift(1));
    }

    private static void noSuchWhat() {
        for (int what : Edge.NO_WHAT_OF_TWO) {
            Edge.refused("drift(" + what + ")", -2, x -> x.drift(what));
        }
    }

    private static void noHouses() {
        Edge.refused("drift(0) without houses", -3, GoodsDownhill::new, x -> x.drift(0));
        Edge.refused("drift(1) without houses", -3, GoodsDownhill::new, x -> x.drift(1));
        Due.due("with one house", Edge.idle(1).drift(0), 0);
    }

    private static void otherIsToldFirst() {
        Edge.refused("drift(2) without houses", -2, GoodsDownhill::new, x -> x.drift(2));
        Edge.refused("drift(-1) without houses", -2, GoodsDownhill::new, x -> x.drift(-1));
    }
}
