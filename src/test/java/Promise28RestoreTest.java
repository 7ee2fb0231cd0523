/** Promise 28, restore: without an image, again and again, each thing that it brings back, and what it leaves. */
public final class Promise28RestoreTest {
    public static void main(String[] args) {
        withoutImage();
        justTaken();
        againAndAgain();
        eachThing();
        mule();
        fewerHouses();
        moreHouses();
        leavesLettersRowRefusals();
        Due.end("Promise28RestoreTest");
    }

    private static void withoutImage() {
        Edge.refused("restore()", -3, GoodsDownhill::new, GoodsDownhill::restore);
        Edge.refused("restore()", -3, () -> Edge.idle(2), GoodsDownhill::restore);
        GoodsDownhill x = Edge.idle(2);
        x.restore();
        x.image();
        Due.due("with one", x.restore(), 0);
        Due.due("refusals -3", x.count(13), 1);
    }

    private static void justTaken() {
        GoodsDownhill x = Edge.busy();
        GoodsDownhill twin = Edge.busy();
        x.image();
        twin.image();
        Due.due("restore()", x.restore(), 2);
        Edge.same("restored at once", x, twin);
    }

    private static void againAndAgain() {
        GoodsDownhill x = Edge.idle(2);
        x.week();
        x.image();
        for (int n = 0; n < 5; n++) {
            x.week();
            x.week();
            x.owe(0, 1, 50 + n);
            Due.due("restore()", x.restore(), 1);
            Due.due("WEEK", x.count(1), 1);
            Due.due("debts", x.count(5), 0);
        }
        Due.due("restore() twice", x.restore(), 1);
    }

    private static GoodsDownhill imaged() {
        GoodsDownhill x = Due.with(Due.house(0, 0, 50, "09", "10", 20) + Due.house(1, 1, 40, "10", "03", 30) + "d015;");
        x.week();
        x.image();
        return x;
    }

    private static void eachThing() {
        GoodsDownhill x = imaged();
        x.week();
        x.sale(0, 1, 0);
        x.mule(0, 1, 1);
        x.law(2);
        for (int good = 0; good < 3; good++) {
            x.price(good, 9);
        }
        x.owe(0, 1, 99);
        x.owe(1, 0, 99);
        x.strike();
        Due.tell(x, Due.house(5, 5, 50, "29", "29", 999));
        Due.due("restore()", x.restore(), 1);
        Edge.same("restored", x, imaged());
    }

    private static void mule() {
        GoodsDownhill x = imaged();
        Due.due("mule", x.mule(0, 1, 1), 53);
        x.restore();
        Due.due("it can go again", x.count(8), 0);
        Due.due("mule", x.mule(0, 1, 1), 53);
        x.image();
        for (int w = 0; w < 52; w++) {
            x.week();
        }
        Due.due("it can go", x.count(8), 0);
        x.restore();
        Due.due("it can't", x.count(8), 52);
        Due.due("mule", x.mule(0, 1, 1), -3);
    }

    /** A place that a house leaves holds nothing of it for the next one. */
    private static void fewerHouses() {
        GoodsDownhill x = Edge.idle(1);
        x.image();
        Due.tell(x, Due.house(0, 0, 90, "09", "10", 50) + "d0199;d1098;");
        x.week();
        x.restore();
        Due.due("houses", x.count(0), 1);
        Due.due("no such house", x.house(1, 0), -1);
        Due.due("all debts", x.count(5), 0);
        Due.due("all stores", x.count(4), 0);
        Due.due("all coin", x.count(3), 9);
        Due.tell(x, Due.house(0, 0, 40, "00", "00", 3));
        Due.due("store", x.store(1, 0), 0);
        Due.due("coin", x.house(1, 9), 3);
        Due.due("debt", x.owe(1, 0, 0), 0);
        Due.due("debt", x.owe(0, 1, 0), 0);
    }

    private static void moreHouses() {
        GoodsDownhill x = Edge.idle(0);
        x.image();
        Due.tell(x, Due.house(0, 0, 50, "00", "00", 9).repeat(6));
        Due.due("full", Due.tell(x, Due.house(0, 0, 50, "00", "00", 9)), -2000);
        x.restore();
        Due.due("room again", Due.tell(x, Due.house(0, 0, 50, "00", "00", 9).repeat(6)), 6);
    }

    private static void leavesLettersRowRefusals() {
        GoodsDownhill x = imaged();
        Due.feed(x, "l2;");
        x.row(10);
        x.row(999);
        x.house(9, 0);
        x.law(3);
        Due.due("restore()", x.restore(), 1);
        Due.due("letters", x.count(6), 3);
        Due.due("in the row", x.count(7), 2);
        Due.due("refusals -1", x.count(11), 1);
        Due.due("refusals -2", x.count(12), 1);
        Due.due("the row is as told", x.judge(), 1);
        Due.due("letters are as told", x.mountain(), 1);
        Due.due("law", x.count(2), 2);
    }
}
