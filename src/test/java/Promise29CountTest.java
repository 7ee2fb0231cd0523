/** Promise 29, count: each number at its least and its greatest, each refusal, and -9 around them. */
public final class Promise29CountTest {
    public static void main(String[] args) {
        atFirst();
        houses();
        coin();
        stores();
        debts();
        lettersAndRow();
        tillTheMuleCanGo();
        eachRefusal();
        faultsAndNoneAreNoRefusals();
        anotherWhat();
        asksAlone();
        Due.end("Promise29CountTest");
    }

    private static void atFirst() {
        GoodsDownhill x = new GoodsDownhill();
        for (int what = 0; what <= 16; what++) {
            Due.due("count(" + what + ")", x.count(what), what == 9 || what == 10 ? -9 : 0);
        }
    }

    private static void houses() {
        for (int n = 0; n <= 6; n++) {
            Due.due("houses", Edge.idle(n).count(0), n);
        }
    }

    private static void coin() {
        GoodsDownhill x = new GoodsDownhill();
        Due.tell(x, Due.house(0, 0, 50, "00", "00", 999).repeat(6));
        Due.due("all coin", x.count(3), 5994);
        x.mule(0, 5, 999);
        Due.due("all coin", x.count(3), 5994);
    }

    private static void stores() {
        GoodsDownhill x = new GoodsDownhill();
        Due.tell(x, Due.house(0, 0, 50, "09", "10", 0).repeat(2) + Due.house(0, 0, 50, "19", "10", 0).repeat(2)
            + Due.house(0, 0, 50, "29", "10", 0).repeat(2));
        for (int w = 1; w <= 13; w++) {
            x.week();
            Due.due("all stores behind " + w, x.count(4), 6 * Math.min(99, 9 * w));
        }
    }

    private static void debts() {
        GoodsDownhill x = Edge.idle(6);
        int all = 0;
        for (int a = 0; a < 6; a++) {
            for (int b = 0; b < 6; b++) {
                x.owe(a, b, 99);
                all += a == b ? 0 : 99;
                Due.due("all debts", x.count(5), all);
            }
        }
        Due.due("the most", x.count(5), 2970);
    }

    private static void lettersAndRow() {
        GoodsDownhill x = new GoodsDownhill();
        for (int n = 1; n <= 97; n++) {
            x.feed('l');
            Due.due("letters", x.count(6), Math.min(96, n));
        }
        for (int n = 1; n <= 9; n++) {
            x.row(10);
            Due.due("in the row", x.count(7), Math.min(8, n));
        }
        x.mountain();
        x.judge();
        Due.due("letters", x.count(6), 0);
        Due.due("in the row", x.count(7), 0);
    }

    private static void tillTheMuleCanGo() {
        GoodsDownhill x = Edge.idle(2);
        Due.due("now", x.count(8), 0);
        x.week();
        Due.due("now", x.count(8), 0);
        x.mule(0, 1, 1);
        for (int w = 0; w <= 60; w++) {
            Due.due("weeks behind " + w, x.count(8), Math.max(0, 52 - w));
            x.week();
        }
    }

    private static void eachRefusal() {
        GoodsDownhill x = Edge.idle(2);
        for (int n = 1; n <= 3; n++) {
            x.house(2, 0);
            x.law(3);
            x.sale(0, 1, 0);
            x.owe(0, 1, -1);
            x.owe(0, 1, 100);
            x.owed(2);
            x.cellar(0, 0, -1);
            x.cellar(0, 0, 10);
            int[] want = {2 * n, n, n, 2 * n, 0, 2 * n};
            for (int i = 0; i < want.length; i++) {
                Due.due("count(" + (11 + i) + ")", x.count(11 + i), want[i]);
            }
        }
    }

    private static void faultsAndNoneAreNoRefusals() {
        GoodsDownhill x = Edge.idle(2);
        x.mountain();
        Due.tell(x, "l3;");
        x.count(9);
        x.count(-1);
        x.judge();
        x.paths(0, 1, 1);
        x.row(999);
        x.judge();
        for (int what = 11; what <= 16; what++) {
            Due.due("count(" + what + ")", x.count(what), 0);
        }
    }

    private static void anotherWhat() {
        int[] others = {Edge.LEAST, -11, -9, -1, 9, 10, 17, 18, 100, Edge.GREATEST};
        for (int what : others) {
            Edge.asked("count(" + what + ")", -9, Edge::busy, x -> x.count(what));
        }
    }

    private static void asksAlone() {
        for (int what = 0; what <= 16; what++) {
            int asked = what;
            Edge.asked("count(" + what + ")", Edge.busy().count(what), Edge::busy, x -> x.count(asked));
        }
    }
}
