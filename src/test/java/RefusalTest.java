import java.util.function.ToIntFunction;

/** Each refusal of each call, the order in which they come, and that nothing changes by one but its count. */
public final class RefusalTest {
    private static final int LEAST = Integer.MIN_VALUE;
    private static final int GREATEST = Integer.MAX_VALUE;
    private static final int FAR = 1000000000;

    public static void main(String[] args) {
        nobody();
        other();
        state();
        below();
        room();
        order();
        Due.end("RefusalTest");
    }

    /** Two houses with stores, debts and coin, a mule on its way, an image, letters and a row. */
    private static GoodsDownhill ready() {
        GoodsDownhill x = Due.with(Due.house(4, 2, 50, "05", "13", 100) + Due.house(1, 3, 40, "11", "02", 20)
            + "d015;d107;p02;");
        x.image();
        x.week();
        x.mule(0, 1, 5);
        x.week();
        x.row(10);
        Due.feed(x, "l1;");
        return x;
    }

    /** All that can be seen but how many refusals there were. */
    private static String seen(GoodsDownhill x) {
        StringBuilder all = new StringBuilder();
        for (int what = 0; what <= 8; what++) {
            all.append(x.count(what)).append(' ');
        }
        for (int h = 0; h < x.count(0); h++) {
            for (int what = 0; what <= 9; what++) {
                all.append(x.house(h, what)).append(' ');
            }
            for (int good = 0; good < 3; good++) {
                all.append(x.store(h, good)).append(' ');
            }
            all.append(x.owed(h)).append(' ');
        }
        for (int good = 0; good < 3; good++) {
            int price = x.price(good, 1);
            x.price(good, price);
            all.append(price).append(' ');
        }
        return all.toString();
    }

    private static void refused(String call, int number, ToIntFunction<GoodsDownhill> made) {
        refused(ready(), call, number, number, made);
    }

    private static void refused(GoodsDownhill x, String call, int number, int answer, ToIntFunction<GoodsDownhill> made) {
        String before = seen(x);
        int[] counts = new int[7];
        for (int n = 1; n <= 6; n++) {
            counts[n] = x.count(10 + n);
        }
        Due.due(call, made.applyAsInt(x), answer);
        Due.holds(call + " changes nothing", before.equals(seen(x)));
        for (int n = 1; n <= 6; n++) {
            Due.due(call + ", then count(" + (10 + n) + ")", x.count(10 + n), counts[n] + (n == -number ? 1 : 0));
        }
    }

    private static void far(String call, int number, ToIntFunction<GoodsDownhill> made) {
        refused(ready(), call, number, FAR - number, made);
    }

    private static void nobody() {
        int[] nobodies = {-1, 2, 6, LEAST, GREATEST};
        for (int h : nobodies) {
            refused("house", -1, x -> x.house(h, 0));
            refused("store", -1, x -> x.store(h, 0));
            refused("behind", -1, x -> x.behind(h, 1));
            far("owed", -1, x -> x.owed(h));
            far("cellar", -1, x -> x.cellar(h, 0, 1));
            pair(h, 0);
            pair(1, h);
        }
        pair(0, 0);
        pair(1, 1);
        int[] noGoods = {-1, 3, LEAST, GREATEST};
        for (int g : noGoods) {
            refused("store", -1, x -> x.store(0, g));
            refused("price", -1, x -> x.price(g, 1));
            refused("sale", -1, x -> x.sale(0, 1, g));
            refused("most", -1, x -> x.most(g));
            far("cellar", -1, x -> x.cellar(0, g, 1));
        }
    }

    private static void pair(int a, int b) {
        refused("lawful", -1, x -> x.lawful(a, b));
        refused("sale", -1, x -> x.sale(a, b, 0));
        refused("mule", -1, x -> x.mule(a, b, 1));
        refused("owe", -1, x -> x.owe(a, b, 1));
        refused("paths", -1, x -> x.paths(a, b, 0));
    }

    private static void other() {
        int[] whats = {-1, 2, LEAST, GREATEST};
        for (int what : whats) {
            refused("served", -2, x -> x.served(1, what));
            refused("drift", -2, x -> x.drift(what));
            refused("paths", -2, x -> x.paths(0, 1, what));
            refused("rings", -2, x -> x.rings(what));
        }
        int[] outside = {-1, 10, LEAST, GREATEST};
        for (int what : outside) {
            refused("house", -2, x -> x.house(0, what));
        }
        int[] noLaws = {-1, 3, LEAST, GREATEST};
        for (int law : noLaws) {
            refused("law", -2, x -> x.law(law));
            refused("votes", -2, x -> x.votes(law, 1));
        }
    }

    private static void state() {
        refused("sale", -3, x -> x.sale(0, 1, 2));
        refused("mule", -3, x -> x.mule(0, 1, 1));
        refused(new GoodsDownhill(), "restore", -3, -3, GoodsDownhill::restore);
        refused(new GoodsDownhill(), "drift", -3, -3, x -> x.drift(0));
        refused(new GoodsDownhill(), "drift", -3, -3, x -> x.drift(1));
        refused(new GoodsDownhill(), "seeds", -3, -3, x -> x.seeds(1, 1));
    }

    private static void below() {
        int[] belowNothing = {-1, LEAST};
        for (int v : belowNothing) {
            refused("feed", -4, x -> x.feed(v));
            refused("price", -4, x -> x.price(0, v));
            refused("mule", -4, x -> x.mule(0, 1, v));
            refused("owe", -4, x -> x.owe(0, 1, v));
            refused("behind", -4, x -> x.behind(0, v));
            refused("served", -4, x -> x.served(v, 0));
            far("cellar", -4, x -> x.cellar(0, 0, v));
            refused("votes", -4, x -> x.votes(1, v));
            refused("row", -4, x -> x.row(v));
            refused("seeds", -4, x -> x.seeds(v, 1));
        }
        refused("price", -4, x -> x.price(0, 0));
        refused("mule", -4, x -> x.mule(0, 1, 0));
        refused("votes", -4, x -> x.votes(1, 0));
        refused("seeds", -4, x -> x.seeds(0, 1));
    }

    private static void room() {
        refused("feed", -6, x -> x.feed(256));
        refused("price", -6, x -> x.price(0, 10));
        refused("owe", -6, x -> x.owe(0, 1, 100));
        refused("behind", -6, x -> x.behind(0, 61));
        refused("served", -6, x -> x.served(61, 0));
        far("cellar", -6, x -> x.cellar(0, 0, 10));
        refused("votes", -6, x -> x.votes(1, 31));
        refused("row", -6, x -> x.row(1000));
        refused("seeds", -6, x -> x.seeds(61, 1));
        refused("feed", -6, x -> x.feed(GREATEST));
        refused("price", -6, x -> x.price(0, GREATEST));
        refused("owe", -6, x -> x.owe(0, 1, GREATEST));
        refused("behind", -6, x -> x.behind(0, GREATEST));
        refused("served", -6, x -> x.served(GREATEST, 1));
        far("cellar", -6, x -> x.cellar(0, 0, GREATEST));
        refused("votes", -6, x -> x.votes(1, GREATEST));
        refused("row", -6, x -> x.row(GREATEST));
        refused("seeds", -6, x -> x.seeds(GREATEST, 1));
        GoodsDownhill rested = ready();
        rested.restore();
        refused(rested, "mule", -6, -6, x -> x.mule(0, 1, 101));
        refused(rested, "mule", -6, -6, x -> x.mule(0, 1, GREATEST));
    }

    private static void order() {
        refused("house", -1, x -> x.house(2, 10));
        refused("price", -1, x -> x.price(3, 0));
        refused("sale", -1, x -> x.sale(1, 0, 3));
        refused("mule", -1, x -> x.mule(0, 0, 0));
        refused("mule", -4, x -> x.mule(0, 1, 0));
        refused("mule", -3, x -> x.mule(0, 1, GREATEST));
        refused("owe", -1, x -> x.owe(0, 0, 100));
        refused("behind", -1, x -> x.behind(2, -1));
        refused("served", -2, x -> x.served(-1, 2));
        far("cellar", -1, x -> x.cellar(0, 3, 10));
        refused("paths", -1, x -> x.paths(0, 0, 2));
        refused("votes", -2, x -> x.votes(3, 0));
        refused(new GoodsDownhill(), "drift", -2, -2, x -> x.drift(2));
        refused(new GoodsDownhill(), "seeds", -4, -4, x -> x.seeds(0, 1));
        refused(new GoodsDownhill(), "seeds", -6, -6, x -> x.seeds(61, 1));
    }
}
