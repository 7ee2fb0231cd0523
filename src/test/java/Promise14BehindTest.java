/** Promise 14, behind: 0 and 60 weeks, refusals and their order. */
public final class Promise14BehindTest {
    public static void main(String[] args) {
        noWeeks();
        sixtyWeeks();
        asWeeksWouldBring();
        fromNow();
        nobodySendsTheMule();
        inMindAlone();
        noSuchHouse();
        below();
        above();
        nobodyIsToldFirst();
        Due.end("Promise14BehindTest");
    }

    /** House 1 buys one piece a week for one coin. */
    private static GoodsDownhill buyer(int coin) {
        return Due.with(Due.house(0, 0, 50, "01", "10", 7) + Due.house(0, 0, 40, "10", "01", coin));
    }

    private static void noWeeks() {
        GoodsDownhill x = buyer(99);
        Due.due("behind(0, 0)", x.behind(0, 0), 7);
        Due.due("behind(1, 0)", x.behind(1, 0), 99);
    }

    private static void sixtyWeeks() {
        GoodsDownhill x = buyer(99);
        for (int n = 1; n <= 60; n++) {
            Due.due("behind(0, " + n + ")", x.behind(0, n), 7 + n);
            Due.due("behind(1, " + n + ")", x.behind(1, n), 99 - n);
        }
        Due.due("just spent", buyer(60).behind(1, 60), 0);
        Due.due("just one left", buyer(60).behind(1, 59), 1);
        Due.due("spent long since", buyer(1).behind(1, 60), 0);
    }

    private static void asWeeksWouldBring() {
        GoodsDownhill x = Edge.rested();
        GoodsDownhill twin = Edge.rested();
        for (int n = 0; n <= 60; n++) {
            for (int h = 0; h < 3; h++) {
                Due.due("behind(" + h + ", " + n + ")", x.behind(h, n), twin.house(h, 9));
            }
            twin.week();
        }
    }

    private static void fromNow() {
        GoodsDownhill x = buyer(99);
        x.week();
        Due.due("behind(1, 1)", x.behind(1, 1), 97);
        x.law(1);
        Due.due("by the law that holds", x.behind(1, 60), 98);
        x.law(0);
        x.price(0, 9);
        Due.due("by prices that hold", x.behind(1, 2), 80);
    }

    private static void nobodySendsTheMule() {
        GoodsDownhill x = buyer(99);
        x.mule(1, 0, 39);
        Due.due("behind(1, 60)", x.behind(1, 60), 0);
        Due.due("behind(0, 60)", x.behind(0, 60), 106);
        Due.due("weeks till it can go", x.count(8), 52);
    }

    private static void inMindAlone() {
        Edge.asked("behind(0, 60)", buyer(99).behind(0, 60), () -> buyer(99), x -> x.behind(0, 60));
        Edge.asked("behind(2, 60)", Edge.busy().behind(2, 60), Edge::busy, x -> x.behind(2, 60));
    }

    private static void noSuchHouse() {
        for (int h : Edge.NO_HOUSE) {
            Edge.refused("behind(" + h + ", 0)", -1, x -> x.behind(h, 0));
            Edge.refused("behind(" + h + ", 60)", -1, x -> x.behind(h, 60));
        }
    }

    private static void below() {
        Edge.refused("behind(0, -1)", -4, x -> x.behind(0, -1));
        Edge.refused("behind(0, least)", -4, x -> x.behind(0, Edge.LEAST));
    }

    private static void above() {
        Edge.refused("behind(0, 61)", -6, x -> x.behind(0, 61));
        Edge.refused("behind(0, greatest)", -6, x -> x.behind(0, Edge.GREATEST));
    }

    private static void nobodyIsToldFirst() {
        Edge.refused("behind(3, -1)", -1, x -> x.behind(3, -1));
        Edge.refused("behind(-1, 61)", -1, x -> x.behind(-1, 61));
    }
}
