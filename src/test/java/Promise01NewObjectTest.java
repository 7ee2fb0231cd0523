/** Promise 1, a new object: no houses, and all as the terms say it is at first. */
public final class Promise01NewObjectTest {
    public static void main(String[] args) {
        noHouses();
        allAtFirst();
        nothingToTell();
        nothingToDo();
        objectsShareNothing();
        Due.end("Promise01NewObjectTest");
    }

    private static void noHouses() {
        GoodsDownhill x = new GoodsDownhill();
        Due.due("houses", x.count(0), 0);
        for (int h = 0; h < 6; h++) {
            Due.due("house(" + h + ", 0)", x.house(h, 0), -1);
            Due.due("store(" + h + ", 0)", x.store(h, 0), -1);
        }
    }

    private static void allAtFirst() {
        GoodsDownhill x = new GoodsDownhill();
        for (int what = 0; what <= 8; what++) {
            Due.due("count(" + what + ")", x.count(what), 0);
        }
        for (int what = 11; what <= 16; what++) {
            Due.due("count(" + what + ")", x.count(what), 0);
        }
        for (int good = 0; good < 3; good++) {
            Due.due("price of " + good, x.price(good, 9), 1);
        }
        Due.due("law", x.law(2), 0);
        Due.due("restore()", x.restore(), -3);
    }

    private static void nothingToTell() {
        GoodsDownhill x = new GoodsDownhill();
        Due.due("stuck()", x.stuck(), 0);
        for (int good = 0; good < 3; good++) {
            Due.due("most(" + good + ")", x.most(good), 0);
        }
        Due.due("served(60, 0)", x.served(60, 0), 0);
        Due.due("served(60, 1)", x.served(60, 1), 0);
        Due.due("rings(0)", x.rings(0), 0);
        Due.due("rings(1)", x.rings(1), 0);
        for (int law = 0; law < 3; law++) {
            Due.due("votes(" + law + ", 30)", x.votes(law, 30), 0);
        }
        Due.due("judge()", x.judge(), -9);
        Due.due("drift(0)", x.drift(0), -3);
        Due.due("drift(1)", x.drift(1), -3);
        Due.due("seeds(60, 1)", x.seeds(60, 1), -3);
        Due.due("behind(0, 0)", x.behind(0, 0), -1);
        Due.due("owed(0)", x.owed(0), 1000000001);
        Due.due("cellar(0, 0, 0)", x.cellar(0, 0, 0), 1000000001);
        Due.due("paths(0, 1, 0)", x.paths(0, 1, 0), -1);
        Due.due("lawful(0, 1)", x.lawful(0, 1), -1);
    }

    private static void nothingToDo() {
        GoodsDownhill x = new GoodsDownhill();
        Due.due("strike()", x.strike(), 0);
        Due.due("mountain()", x.mountain(), -1000);
        Due.due("sale(0, 1, 0)", x.sale(0, 1, 0), -1);
        Due.due("mule(0, 1, 1)", x.mule(0, 1, 1), -1);
        Due.due("owe(0, 1, 1)", x.owe(0, 1, 1), -1);
        Due.due("image()", x.image(), 0);
        Due.due("restore()", x.restore(), 0);
        Due.due("week()", x.week(), 0);
        Due.due("WEEK", x.count(1), 1);
    }

    private static void objectsShareNothing() {
        GoodsDownhill x = new GoodsDownhill();
        GoodsDownhill other = Edge.busy();
        other.law(2);
        other.price(1, 9);
        other.house(9, 9);
        Due.due("houses", x.count(0), 0);
        Due.due("law", x.count(2), 0);
        Due.due("letters", x.count(6), 0);
        Due.due("in the row", x.count(7), 0);
        Due.due("refusals -1", x.count(11), 0);
        Due.due("price", x.price(1, 1), 1);
        Due.due("no image", x.restore(), -3);
    }
}
