/** Promises 17 to 20: what is stuck, the most that can be sold, what a cellar is worth, paths. */
public final class MayBeTest {
    public static void main(String[] args) {
        stuck();
        most();
        mostAsideFromCoinAndStores();
        cellar();
        cellarBelowNothing();
        cellarRefused();
        paths();
        pathsByAMarket();
        Due.end("MayBeTest");
    }

    private static void stuck() {
        GoodsDownhill x = Due.with(Due.house(0, 0, 50, "05", "10", 0) + Due.house(0, 0, 40, "04", "12", 0)
            + Due.house(0, 0, 45, "03", "06", 0) + Due.house(0, 0, 60, "27", "20", 0));
        Due.due("nothing in stores", x.stuck(), 0);
        x.week();
        Due.due("of house 1, and what nobody wants of 3", x.stuck(), 4 + 7);
        x.law(1);
        Due.due("of house 0, and of 3", x.stuck(), 5 + 7);
        x.law(2);
        Due.due("of house 3 alone", x.stuck(), 7);
        Due.tell(x, Due.house(0, 0, 10, "00", "21", 0));
        Due.due("house 4 wants it", x.stuck(), 0);
        x.law(1);
        Due.due("but stands below", x.stuck(), 5 + 7);
        Due.due("stores stay", x.count(4), 5 + 4 + 7);
        Due.due("without houses", new GoodsDownhill().stuck(), 0);
        for (int good = 0; good < 3; good++) {
            GoodsDownhill one = Due.with(Due.house(0, 0, 50, good + "9", good + "0", 0));
            one.week();
            Due.due("all of good " + good, one.stuck(), 9);
        }
        GoodsDownhill own = Due.with(Due.house(0, 0, 50, "09", "02", 0));
        own.week();
        Due.due("who wants it has none stuck", own.stuck(), 0);
    }

    /** Sellers 0 (5 pieces) and 1 (4 pieces), buyers 2 (wants 3) and 3 (wants 6) without a coin. */
    private static GoodsDownhill twoAndTwo() {
        GoodsDownhill x = Due.with(Due.house(0, 0, 50, "05", "10", 0) + Due.house(0, 0, 30, "04", "10", 0)
            + Due.house(0, 0, 40, "20", "03", 0) + Due.house(0, 0, 20, "20", "06", 0));
        x.week();
        return x;
    }

    private static void most() {
        GoodsDownhill x = twoAndTwo();
        Due.due("all, if 0 leaves 3 to 1", x.most(0), 9);
        Due.due("nothing made", x.most(1), 0);
        Due.due("nothing made", x.most(2), 0);
        x.law(1);
        Due.due("1 to 2 alone", x.most(0), 3);
        x.law(2);
        Due.due("any", x.most(0), 9);
        x.week();
        Due.due("no more than they want", x.most(0), 9);
        Due.due("most(3)", x.most(3), -1);
        Due.due("most(-1)", x.most(-1), -1);
        Due.due("stores stay", x.count(4), 18);
        Due.due("without houses", new GoodsDownhill().most(2), 0);
    }

    private static void mostAsideFromCoinAndStores() {
        GoodsDownhill x = Due.with(Due.house(0, 0, 50, "09", "10", 0) + Due.house(0, 0, 40, "09", "05", 0)
            + Due.house(0, 0, 60, "09", "02", 0));
        x.week();
        Due.due("what it has aside; who wants it sells none", x.most(0), 5);
        x.law(2);
        Due.due("no more than each wants", x.most(0), 7);
        for (int w = 0; w < 30; w++) {
            x.week();
        }
        Due.due("room aside", x.most(0), 7);
        GoodsDownhill few = Due.with(Due.house(0, 0, 50, "02", "10", 0) + Due.house(0, 0, 40, "10", "09", 0));
        few.week();
        Due.due("no more than there is", few.most(0), 2);
    }

    private static void cellar() {
        GoodsDownhill x = Due.with(Due.house(0, 0, 50, "09", "10", 0) + Due.house(0, 0, 50, "20", "04", 0)
            + Due.house(0, 0, 53, "20", "03", 0));
        x.week();
        Due.due("most", x.most(0), 0);
        Due.due("cellar of 0 deep", x.cellar(1, 0, 0), 0);
        Due.due("cellar of 1 deep", x.cellar(1, 0, 1), 4);
        Due.due("cellar of 9 deep", x.cellar(1, 0, 9), 4);
        Due.due("just as high", x.cellar(2, 0, 3), 0);
        Due.due("deep enough", x.cellar(2, 0, 4), 3);
        Due.due("of the seller", x.cellar(0, 0, 9), 0);
        Due.due("another good", x.cellar(1, 1, 9), 0);
        Due.due("most stays", x.most(0), 0);
        Due.due("kind stays", x.house(1, 0), 0);
        Due.due("figure stays", x.house(1, 1), 0);
        x.law(1);
        Due.due("by another law", x.most(0), 3);
        Due.due("too deep for going up", x.cellar(2, 0, 3), -3);
        Due.due("not too deep", x.cellar(2, 0, 2), 0);
    }

    private static void cellarBelowNothing() {
        GoodsDownhill x = Due.with(Due.house(2, 5, 50, "09", "10", 0) + Due.house(0, 0, 52, "20", "04", 0)
            + Due.house(5, 4, 57, "20", "05", 0));
        x.week();
        Due.due("most", x.most(0), 9);
        Due.due("joined no more", x.cellar(0, 0, 9), -4);
        Due.due("feigned no more", x.cellar(2, 0, 2), -5);
        Due.due("feigned no more, but deep enough", x.cellar(2, 0, 3), 0);
        GoodsDownhill y = Due.with(Due.house(4, 5, 50, "09", "10", 0) + Due.house(0, 0, 52, "20", "04", 0)
            + Due.house(3, 0, 10, "20", "02", 0));
        y.week();
        Due.due("a market sells as a cellared house no more", y.cellar(0, 0, 5), -4);
        Due.due("a hermit buys as a cellared house", y.cellar(2, 0, 0), 2);
    }

    private static void cellarRefused() {
        GoodsDownhill x = twoAndTwo();
        Due.due("nobody", x.cellar(4, 0, 1), 1000000001);
        Due.due("nobody", x.cellar(-1, 0, 1), 1000000001);
        Due.due("no good", x.cellar(0, 3, 1), 1000000001);
        Due.due("no good", x.cellar(0, -1, -1), 1000000001);
        Due.due("below", x.cellar(0, 0, -1), 1000000004);
        Due.due("above", x.cellar(0, 0, 10), 1000000006);
        Due.due("refused -1", x.count(11), 4);
        Due.due("refused -4", x.count(14), 1);
        Due.due("refused -6", x.count(16), 1);
    }

    private static void paths() {
        String house = Due.house(0, 0, 50, "00", "00", 0);
        GoodsDownhill x = Due.with(house + Due.house(0, 0, 40, "00", "00", 0) + Due.house(0, 0, 30, "00", "00", 0)
            + Due.house(0, 0, 30, "00", "00", 0));
        Due.due("down by 1 or at once", x.paths(0, 2, 0), 2);
        Due.due("at once", x.paths(0, 2, 1), 1);
        Due.due("not up", x.paths(2, 0, 0), 0);
        Due.due("not up", x.paths(2, 0, 1), -9);
        Due.due("not along", x.paths(2, 3, 1), -9);
        x.law(1);
        Due.due("up", x.paths(2, 0, 0), 2);
        Due.due("not down", x.paths(0, 2, 0), 0);
        x.law(2);
        Due.due("any, of four", x.paths(0, 3, 0), 5);
        Due.due("any, at once", x.paths(3, 0, 1), 1);
        Due.tell(x, house + house);
        Due.due("any, of six", x.paths(5, 0, 0), 65);
        Due.due("one house twice", x.paths(1, 1, 0), -1);
        Due.due("nobody", x.paths(6, 1, 0), -1);
        Due.due("nobody", x.paths(1, -1, 2), -1);
        Due.due("no such what", x.paths(0, 1, 2), -2);
        Due.due("no such what", x.paths(0, 1, -1), -2);
        Due.due("-9 is no refusal", x.count(11) + x.count(12), 5);
    }

    private static void pathsByAMarket() {
        GoodsDownhill x = Due.with(Due.house(0, 0, 30, "00", "00", 0) + Due.house(4, 5, 30, "00", "00", 0)
            + Due.house(0, 0, 32, "00", "00", 0));
        Due.due("not at once", x.lawful(0, 2), 0);
        Due.due("by the market", x.paths(0, 2, 0), 1);
        Due.due("by the market", x.paths(0, 2, 1), 2);
        Due.tell(x, Due.house(4, 6, 35, "00", "00", 0) + Due.house(4, 9, 41, "00", "00", 0)
            + Due.house(0, 0, 49, "00", "00", 0));
        Due.due("up a stair of markets", x.paths(0, 5, 1), 3);
    }
}
