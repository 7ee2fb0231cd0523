/** Promise 17, stuck: nothing, full stores, wants of 0 and 1, levels alike and one apart. */
public final class Promise17StuckTest {
    public static void main(String[] args) {
        nothing();
        wantsOfNothing();
        ownWants();
        levelsOneApart();
        fullStores();
        oneBuyerIsEnough();
        firstAndLastHouse();
        coinAndRoomDoNotMatter();
        asksAlone();
        Due.end("Promise17StuckTest");
    }

    private static void nothing() {
        Due.due("no houses", new GoodsDownhill().stuck(), 0);
        Due.due("no stores", Edge.idle(6).stuck(), 0);
    }

    /** Whoever wants 0 of a good does not want it. */
    private static void wantsOfNothing() {
        for (int good = 0; good < 3; good++) {
            GoodsDownhill none = twoHouses(good, good + "0", 40);
            Due.due("nobody wants good " + good, none.stuck(), 9);
            GoodsDownhill one = twoHouses(good, good + "1", 40);
            Due.due("one piece of good " + good + " is wanted", one.stuck(), 0);
            GoodsDownhill other = twoHouses(good, (good + 1) % 3 + "9", 40);
            Due.due("another good is wanted", other.stuck(), 9);
        }
    }

    /** House 0 at 50 has nine pieces of a good; house 1 has no coin. */
    private static GoodsDownhill twoHouses(int good, String wants, int height) {
        GoodsDownhill x = Due.with(Due.house(0, 0, 50, good + "9", good + "0", 0) + Due.house(0, 0, height, "00", wants, 0));
        x.week();
        return x;
    }

    private static void ownWants() {
        GoodsDownhill x = Due.with(Due.house(0, 0, 50, "09", "01", 0));
        x.week();
        Due.due("who wants it has none stuck", x.stuck(), 0);
        GoodsDownhill y = Due.with(Due.house(0, 0, 50, "09", "00", 0));
        y.week();
        Due.due("who wants 0 of it has", y.stuck(), 9);
    }

    private static void levelsOneApart() {
        int[] heights = {49, 50, 51};
        int[] down = {0, 9, 9};
        int[] up = {9, 9, 0};
        for (int i = 0; i < 3; i++) {
            GoodsDownhill x = twoHouses(0, "01", heights[i]);
            Due.due("down to " + heights[i], x.stuck(), down[i]);
            x.law(1);
            Due.due("up to " + heights[i], x.stuck(), up[i]);
            x.law(2);
            Due.due("any", x.stuck(), 0);
        }
    }

    private static void fullStores() {
        GoodsDownhill x = new GoodsDownhill();
        Due.tell(x, Due.house(0, 0, 50, "09", "10", 0).repeat(6));
        for (int w = 0; w < 12; w++) {
            x.week();
        }
        Due.due("all of six full stores", x.stuck(), 594);
    }

    private static void oneBuyerIsEnough() {
        GoodsDownhill x = Due.with(Due.house(0, 0, 50, "09", "10", 0) + Due.house(0, 0, 90, "20", "09", 0)
            + Due.house(0, 0, 60, "20", "09", 0) + Due.house(1, 9, 58, "20", "01", 0));
        x.week();
        Due.due("the last one buys below", x.stuck(), 0);
        GoodsDownhill y = Due.with(Due.house(0, 0, 50, "09", "10", 0) + Due.house(0, 0, 90, "20", "09", 0)
            + Due.house(0, 0, 60, "20", "09", 0) + Due.house(1, 9, 59, "20", "01", 0));
        y.week();
        Due.due("the last one buys as high", y.stuck(), 9);
    }

    private static void firstAndLastHouse() {
        String buyer = Due.house(0, 0, 40, "20", "01", 0);
        String idle = Due.house(0, 0, 45, "20", "20", 0);
        String seller = Due.house(0, 0, 50, "09", "10", 0);
        GoodsDownhill first = Due.with(buyer + idle.repeat(4) + seller);
        first.week();
        Due.due("the first buys of the last", first.stuck(), 0);
        GoodsDownhill last = Due.with(seller + idle.repeat(4) + buyer);
        last.week();
        Due.due("the last buys of the first", last.stuck(), 0);
        GoodsDownhill none = Due.with(seller + idle.repeat(5));
        none.week();
        Due.due("nobody buys of the first", none.stuck(), 9);
        GoodsDownhill neither = Due.with(idle.repeat(5) + seller);
        neither.week();
        Due.due("nobody buys of the last", neither.stuck(), 9);
    }

    /** House 1 has a store and no coin: the pieces of house 0 may be sold to it lawfully all the same. */
    private static void coinAndRoomDoNotMatter() {
        GoodsDownhill x = Due.with(Due.house(0, 0, 50, "09", "10", 0) + Due.house(0, 0, 40, "09", "01", 0));
        for (int w = 0; w < 15; w++) {
            x.week();
        }
        Due.due("none is stuck", x.stuck(), 0);
    }

    private static void asksAlone() {
        Edge.asked("stuck()", Edge.busy().stuck(), Edge::busy, GoodsDownhill::stuck);
    }
}
