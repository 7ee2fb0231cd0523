/** Promise 22, rings: none, one, the most, in mind alone, refusals. */
public final class Promise22RingsTest {
    public static void main(String[] args) {
        none();
        ofTwo();
        ofThree();
        allDebts();
        asStrikeWouldBring();
        asksAlone();
        noSuchWhat();
        Due.end("Promise22RingsTest");
    }

    private static void rings(GoodsDownhill x, int many, int much) {
        Due.due("rings(0)", x.rings(0), many);
        Due.due("rings(1)", x.rings(1), much);
    }

    private static void none() {
        rings(new GoodsDownhill(), 0, 0);
        rings(Edge.idle(6), 0, 0);
        GoodsDownhill x = Edge.idle(4);
        x.owe(0, 1, 9);
        x.owe(1, 2, 9);
        rings(x, 0, 0);
        x.owe(2, 3, 9);
        x.owe(3, 0, 9);
        rings(x, 0, 0);
    }

    private static void ofTwo() {
        GoodsDownhill x = Edge.idle(2);
        x.owe(0, 1, 99);
        x.owe(1, 0, 1);
        rings(x, 1, 2);
        x.owe(1, 0, 99);
        rings(x, 1, 198);
    }

    private static void ofThree() {
        GoodsDownhill x = Edge.idle(3);
        x.owe(0, 1, 99);
        x.owe(1, 2, 98);
        x.owe(2, 0, 1);
        rings(x, 1, 3);
        x.owe(2, 0, 99);
        rings(x, 1, 294);
    }

    private static void allDebts() {
        GoodsDownhill x = Edge.idle(6);
        for (int a = 0; a < 6; a++) {
            for (int b = 0; b < 6; b++) {
                x.owe(a, b, 99);
            }
        }
        rings(x, 15, 2970);
    }

    private static void asStrikeWouldBring() {
        GoodsDownhill x = Edge.idle(6);
        for (int a = 0; a < 6; a++) {
            for (int b = 0; b < 6; b++) {
                x.owe(a, b, (a * 37 + b * 11) % 50);
            }
        }
        int many = x.rings(0);
        int much = x.rings(1);
        int debts = x.count(5);
        Due.due("as many are struck", x.strike(), many);
        Due.due("as much less is owed", debts - x.count(5), much);
        rings(x, 0, 0);
    }

    private static void asksAlone() {
        Edge.asked("rings(0)", 1, Edge::busy, x -> x.rings(0));
        Edge.asked("rings(1)", 10, Edge::busy, x -> x.rings(1));
    }

    private static void noSuchWhat() {
        for (int what : Edge.NO_WHAT_OF_TWO) {
            Edge.refused("rings(" + what + ")", -2, x -> x.rings(what));
            Edge.refused("rings(" + what + ") without houses", -2, GoodsDownhill::new, x -> x.rings(what));
        }
    }
}
