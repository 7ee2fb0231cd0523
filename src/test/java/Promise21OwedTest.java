/** Promise 21, owed: nothing, the most, the least, refusals told far away. */
public final class Promise21OwedTest {
    public static void main(String[] args) {
        nothing();
        mostAndLeast();
        bothWays();
        asksAlone();
        noSuchHouse();
        Due.end("Promise21OwedTest");
    }

    private static void nothing() {
        for (int h = 0; h < 6; h++) {
            Due.due("owed(" + h + ")", Edge.idle(6).owed(h), 0);
        }
    }

    private static void mostAndLeast() {
        for (int h = 0; h < 6; h += 5) {
            GoodsDownhill owed = Edge.idle(6);
            GoodsDownhill owing = Edge.idle(6);
            for (int other = 0; other < 6; other++) {
                owed.owe(other, h, 99);
                owing.owe(h, other, 99);
            }
            Due.due("the most of " + h, owed.owed(h), 495);
            Due.due("of another", owed.owed(3), -99);
            Due.due("the least of " + h, owing.owed(h), -495);
            Due.due("of another", owing.owed(3), 99);
        }
    }

    private static void bothWays() {
        GoodsDownhill x = Edge.idle(2);
        x.owe(0, 1, 40);
        x.owe(1, 0, 40);
        Due.due("as much as it owes", x.owed(0), 0);
        x.owe(1, 0, 39);
        Due.due("one less", x.owed(0), -1);
        Due.due("one more", x.owed(1), 1);
    }

    private static void asksAlone() {
        for (int h = 0; h < 3; h++) {
            int asked = h;
            Edge.asked("owed(" + h + ")", Edge.busy().owed(h), Edge::busy, x -> x.owed(asked));
        }
    }

    private static void noSuchHouse() {
        for (int h : Edge.NO_HOUSE) {
            Edge.refusedFar("owed(" + h + ")", -1, x -> x.owed(h));
        }
        Due.due("told far away", Edge.busy().owed(3), 1000000001);
        Due.due("of six", Edge.idle(6).owed(6), 1000000001);
        Due.due("without houses", new GoodsDownhill().owed(0), 1000000001);
    }
}
