/** Promise 12, owe: the least and the greatest debt, refusals and their order. */
public final class Promise12OweTest {
    public static void main(String[] args) {
        nothingAtFirst();
        fromNothingTo99();
        oneWayAlone();
        noSuchHouse();
        oneHouseTwice();
        below();
        above();
        nobodyIsToldFirst();
        Due.end("Promise12OweTest");
    }

    private static void nothingAtFirst() {
        GoodsDownhill x = Edge.idle(6);
        for (int a = 0; a < 6; a++) {
            for (int b = 0; b < 6; b++) {
                Due.due("owe(" + a + ", " + b + ", 99)", x.owe(a, b, 99), a == b ? -1 : 0);
            }
        }
        Due.due("all debts", x.count(5), 30 * 99);
    }

    private static void fromNothingTo99() {
        GoodsDownhill x = Edge.idle(2);
        int before = 0;
        for (int v = 0; v <= 99; v++) {
            Due.due("owe(0, 1, " + v + ")", x.owe(0, 1, v), before);
            before = v;
        }
        Due.due("owe(0, 1, 0)", x.owe(0, 1, 0), 99);
        Due.due("all debts", x.count(5), 0);
    }

    private static void oneWayAlone() {
        GoodsDownhill x = Edge.idle(3);
        x.owe(0, 1, 99);
        Due.due("the other way", x.owe(1, 0, 0), 0);
        Due.due("another one", x.owe(0, 2, 0), 0);
        Due.due("this way", x.owe(0, 1, 1), 99);
        Due.due("coin stays", x.count(3), 27);
    }

    private static void noSuchHouse() {
        for (int h : Edge.NO_HOUSE) {
            Edge.refused("owe(" + h + ", 0, 1)", -1, x -> x.owe(h, 0, 1));
            Edge.refused("owe(2, " + h + ", 1)", -1, x -> x.owe(2, h, 1));
        }
    }

    private static void oneHouseTwice() {
        for (int h = 0; h < 3; h++) {
            int asked = h;
            Edge.refused("owe(" + h + ", " + h + ", 1)", -1, x -> x.owe(asked, asked, 1));
        }
    }

    private static void below() {
        Edge.refused("owe(0, 1, -1)", -4, x -> x.owe(0, 1, -1));
        Edge.refused("owe least", -4, x -> x.owe(0, 1, Edge.LEAST));
    }

    private static void above() {
        Edge.refused("owe(0, 1, 100)", -6, x -> x.owe(0, 1, 100));
        Edge.refused("owe greatest", -6, x -> x.owe(0, 1, Edge.GREATEST));
    }

    private static void nobodyIsToldFirst() {
        Edge.refused("owe(0, 0, -1)", -1, x -> x.owe(0, 0, -1));
        Edge.refused("owe(0, 3, 100)", -1, x -> x.owe(0, 3, 100));
    }
}
