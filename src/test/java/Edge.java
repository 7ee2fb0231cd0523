import java.util.function.Supplier;
import java.util.function.ToIntFunction;

/** What the tests of edges share: refused calls, and all that can be seen of an object. */
final class Edge {
    static final int LEAST = Integer.MIN_VALUE;
    static final int GREATEST = Integer.MAX_VALUE;
    /** Refusals of calls whose answers may be below 0 are told from here. */
    static final int FAR = 1000000000;
    /** Numbers that name none of the three houses of busy(), and none of the goods. */
    static final int[] NO_HOUSE = {-1, 3, 5, 6, LEAST, GREATEST};
    static final int[] NO_GOOD = {-1, 3, LEAST, GREATEST};
    /** Nothing but 0 and 1 is asked for with these. */
    static final int[] NO_WHAT_OF_TWO = {-1, 2, LEAST, GREATEST};
    static final int[] NO_LAW = {-1, 3, LEAST, GREATEST};

    private Edge() {
    }

    /** Three houses with stores, debts and coin, a mule on its way, an image, letters and a row. */
    static GoodsDownhill busy() {
        GoodsDownhill x = rested();
        x.mule(0, 1, 5);
        x.week();
        return x;
    }

    /** As busy(), but the mule can go. */
    static GoodsDownhill rested() {
        GoodsDownhill x = Due.with(Due.house(4, 2, 50, "05", "13", 100) + Due.house(1, 3, 40, "11", "02", 20)
            + Due.house(0, 9, 30, "24", "20", 7) + "d015;d107;p02;");
        x.image();
        x.week();
        x.row(10);
        x.row(110);
        Due.feed(x, "l1;");
        return x;
    }

    /** So many like houses: none makes or wants anything, each has 9 coins. */
    static GoodsDownhill idle(int houses) {
        GoodsDownhill x = new GoodsDownhill();
        for (int h = 0; h < houses; h++) {
            Due.tell(x, Due.house(0, 0, 50, "00", "00", 9));
        }
        return x;
    }

    static void refused(String call, int number, ToIntFunction<GoodsDownhill> made) {
        refused(call, number, Edge::busy, made);
    }

    static void refused(String call, int number, Supplier<GoodsDownhill> maker, ToIntFunction<GoodsDownhill> made) {
        refusedWith(call, number, number, maker, made);
    }

    static void refusedFar(String call, int number, ToIntFunction<GoodsDownhill> made) {
        refusedWith(call, number, FAR - number, Edge::busy, made);
    }

    /** A like object, on which the call is not made, tells what must be the same behind it. */
    private static void refusedWith(String call, int number, int answer, Supplier<GoodsDownhill> maker,
            ToIntFunction<GoodsDownhill> made) {
        GoodsDownhill x = maker.get();
        GoodsDownhill twin = maker.get();
        Due.due(call, made.applyAsInt(x), answer);
        for (int n = 1; n <= 6; n++) {
            Due.due(call + ", then refusals -" + n, x.count(10 + n), twin.count(10 + n) + (n == -number ? 1 : 0));
        }
        same(call + " changes nothing", x, twin);
    }

    /** A call that only asks: it answers so, is no refusal, and nothing changes. */
    static void asked(String call, int answer, Supplier<GoodsDownhill> maker, ToIntFunction<GoodsDownhill> made) {
        GoodsDownhill x = maker.get();
        GoodsDownhill twin = maker.get();
        Due.due(call, made.applyAsInt(x), answer);
        noMoreRefusals(call, x, twin);
        same(call + " changes nothing", x, twin);
    }

    static void noMoreRefusals(String call, GoodsDownhill x, GoodsDownhill twin) {
        for (int n = 1; n <= 6; n++) {
            Due.due(call + ", then refusals -" + n, x.count(10 + n), twin.count(10 + n));
        }
    }

    static void same(String what, GoodsDownhill x, GoodsDownhill twin) {
        String got = seen(x);
        String want = seen(twin);
        Due.holds(what + ": " + got + " and not " + want, got.equals(want));
    }

    /** All that can be seen, but refusals. The object is used up by it: row, letters and image are tried. */
    private static String seen(GoodsDownhill x) {
        StringBuilder all = new StringBuilder();
        addState(x, all);
        all.append("judge ").append(x.judge()).append(' ');
        all.append("mountain ").append(x.mountain()).append(' ');
        addState(x, all);
        int week = x.restore();
        all.append("restore ").append(week).append(' ');
        if (week >= 0) {
            addState(x, all);
        }
        return all.toString();
    }

    private static void addState(GoodsDownhill x, StringBuilder all) {
        for (int what = 0; what <= 8; what++) {
            all.append(x.count(what)).append(' ');
        }
        int houses = x.count(0);
        for (int h = 0; h < houses; h++) {
            for (int what = 0; what <= 9; what++) {
                all.append(x.house(h, what)).append(' ');
            }
            for (int good = 0; good < 3; good++) {
                all.append(x.store(h, good)).append(' ');
            }
        }
        for (int good = 0; good < 3; good++) {
            int price = x.price(good, 1);
            x.price(good, price);
            all.append(price).append(' ');
        }
        for (int a = 0; a < houses; a++) {
            for (int b = 0; b < houses; b++) {
                if (a != b) {
                    int debt = x.owe(a, b, 0);
                    x.owe(a, b, debt);
                    all.append(debt).append(' ');
                }
            }
        }
    }
}
