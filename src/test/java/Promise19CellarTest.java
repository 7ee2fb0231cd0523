/** Promise 19, cellar: figures 0 and 9, worth below, at and above 0, refusals told far away and their order. */
public final class Promise19CellarTest {
    public static void main(String[] args) {
        figures();
        worthNothing();
        worthBelowNothing();
        instead();
        greatestWorth();
        asksAlone();
        noSuchHouse();
        noSuchGood();
        below();
        above();
        nobodyIsToldFirst();
        Due.end("Promise19CellarTest");
    }

    /** House 0 at 50 has nine pieces of good 0; house 1 at a height wants four. */
    private static GoodsDownhill two(int kind, int figure, int height) {
        GoodsDownhill x = Due.with(Due.house(0, 0, 50, "09", "10", 0) + Due.house(kind, figure, height, "20", "04", 0));
        x.week();
        return x;
    }

    private static void figures() {
        for (int figure = 0; figure <= 9; figure++) {
            Due.due("as high, figure " + figure, two(0, 0, 50).cellar(1, 0, figure), figure > 0 ? 4 : 0);
            Due.due("eight above, figure " + figure, two(0, 0, 58).cellar(1, 0, figure), figure > 8 ? 4 : 0);
            Due.due("nine above, figure " + figure, two(0, 0, 59).cellar(1, 0, figure), 0);
        }
    }

    private static void worthNothing() {
        GoodsDownhill x = two(0, 0, 40);
        Due.due("who buys already", x.cellar(1, 0, 9), 0);
        Due.due("the seller", x.cellar(0, 0, 9), 0);
        Due.due("another good", x.cellar(1, 1, 9), 0);
        Due.due("another good", x.cellar(1, 2, 9), 0);
        Due.due("a cellared one as it is", two(1, 5, 54).cellar(1, 0, 5), 0);
        Due.due("a lone house", Edge.idle(1).cellar(0, 0, 9), 0);
    }

    private static void worthBelowNothing() {
        Due.due("a shallower cellar", two(1, 5, 54).cellar(1, 0, 5), 0);
        Due.due("a shallower cellar", two(1, 5, 54).cellar(1, 0, 4), -4);
        Due.due("feigned no more", two(5, 5, 58).cellar(1, 0, 9), 0);
        Due.due("feigned no more", two(5, 5, 58).cellar(1, 0, 8), -4);
        GoodsDownhill up = two(0, 0, 55);
        up.law(1);
        Due.due("still above", up.cellar(1, 0, 4), 0);
        Due.due("as high then", up.cellar(1, 0, 5), -4);
        Due.due("below then", up.cellar(1, 0, 6), -4);
    }

    /** The house is of kind cellared then, whatever it was: it sells at its height and buys at so much less. */
    private static void instead() {
        Due.due("a hermit no more", two(3, 0, 50).cellar(1, 0, 1), 4);
        Due.due("a hermit no more", two(3, 0, 50).cellar(1, 0, 0), 0);
        GoodsDownhill joined = Due.with(Due.house(2, 1, 50, "09", "10", 0) + Due.house(0, 0, 50, "20", "04", 0));
        joined.week();
        Due.due("joined no more", joined.cellar(0, 0, 1), -4);
        GoodsDownhill market = Due.with(Due.house(4, 1, 50, "09", "10", 0) + Due.house(0, 0, 50, "20", "04", 0));
        market.week();
        Due.due("a market no more", market.cellar(0, 0, 1), -4);
        GoodsDownhill own = Due.with(Due.house(0, 9, 50, "09", "10", 0) + Due.house(0, 9, 55, "20", "04", 0));
        own.week();
        Due.due("the told figure, not its own", own.cellar(1, 0, 5), 0);
        Due.due("the told figure, not its own", own.cellar(1, 0, 6), 4);
    }

    private static void greatestWorth() {
        GoodsDownhill x = Due.with(Due.house(0, 0, 50, "09", "10", 0) + Due.house(0, 0, 50, "20", "09", 0));
        x.week();
        Due.due("worth nine", x.cellar(1, 0, 9), 9);
        GoodsDownhill y = Due.with(Due.house(0, 0, 50, "09", "10", 0) + Due.house(4, 9, 50, "20", "09", 0));
        y.week();
        Due.due("worth nine less", y.cellar(1, 0, 0), -9);
    }

    private static void asksAlone() {
        for (int h = 0; h < 3; h++) {
            int asked = h;
            Edge.asked("cellar(" + h + ", 0, 9)", Edge.busy().cellar(h, 0, 9), Edge::busy, x -> x.cellar(asked, 0, 9));
        }
    }

    private static void noSuchHouse() {
        for (int h : Edge.NO_HOUSE) {
            Edge.refusedFar("cellar(" + h + ", 0, 0)", -1, x -> x.cellar(h, 0, 0));
            Edge.refusedFar("cellar(" + h + ", 2, 9)", -1, x -> x.cellar(h, 2, 9));
        }
        Due.due("told far away", Edge.busy().cellar(3, 0, 0), 1000000001);
    }

    private static void noSuchGood() {
        for (int good : Edge.NO_GOOD) {
            Edge.refusedFar("cellar(0, " + good + ", 0)", -1, x -> x.cellar(0, good, 0));
        }
    }

    private static void below() {
        Edge.refusedFar("cellar(0, 0, -1)", -4, x -> x.cellar(0, 0, -1));
        Edge.refusedFar("cellar(0, 0, least)", -4, x -> x.cellar(0, 0, Edge.LEAST));
        Due.due("told far away", Edge.busy().cellar(0, 0, -1), 1000000004);
    }

    private static void above() {
        Edge.refusedFar("cellar(0, 0, 10)", -6, x -> x.cellar(0, 0, 10));
        Edge.refusedFar("cellar(0, 0, greatest)", -6, x -> x.cellar(0, 0, Edge.GREATEST));
        Due.due("told far away", Edge.busy().cellar(0, 0, 10), 1000000006);
    }

    private static void nobodyIsToldFirst() {
        Edge.refusedFar("cellar(3, 0, -1)", -1, x -> x.cellar(3, 0, -1));
        Edge.refusedFar("cellar(0, 3, 10)", -1, x -> x.cellar(0, 3, 10));
        Edge.refusedFar("cellar(3, 3, 10)", -1, x -> x.cellar(3, 3, 10));
    }
}
