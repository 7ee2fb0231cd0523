import java.util.Random;

/** Runs of calls by lot (always the same ones), each answer held against the model's. */
public final class ModelTest {
    private static final int RUNS = 3000;
    private static final int CALLS = 512;
    private static final int[] ODD = {
        Integer.MIN_VALUE, -1000, -2, -1, 3, 6, 9, 10, 30, 31, 60, 61, 96, 99, 100, 255, 256, 999, 1000, 9999, 10000,
        Integer.MAX_VALUE - 9998, Integer.MAX_VALUE};

    private final Random lot;
    private final GoodsDownhill x = new GoodsDownhill();
    private final Model m = new Model();
    private final String name;
    private int calls = 0;

    private ModelTest(long seed) {
        lot = new Random(seed);
        name = "run " + seed;
    }

    public static void main(String[] args) {
        for (int run = 0; run < RUNS; run++) {
            new ModelTest(run).go();
        }
        Due.end("ModelTest");
    }

    private void go() {
        feedText(mountainText(1 + lot.nextInt(7)));
        mountain();
        while (calls < CALLS - 200) {
            if (lot.nextInt(25) == 0) {
                feedText(spoilt(mountainText(1 + lot.nextInt(4))));
                mountain();
            } else {
                call(lot.nextInt(28));
            }
        }
        look();
    }

    private void due(String call, int got, int want) {
        calls++;
        Due.due(name + " call " + calls + ": " + call, got, want);
    }

    private void feedText(String text) {
        for (int i = 0; i < text.length(); i++) {
            int c = text.charAt(i);
            due("feed(" + c + ")", x.feed(c), m.feed(c));
        }
    }

    private void mountain() {
        due("mountain()", x.mountain(), m.mountain());
    }

    private int below(int n) {
        return lot.nextInt(40) == 0 ? ODD[lot.nextInt(ODD.length)] : lot.nextInt(n);
    }

    private String mountainText(int statements) {
        StringBuilder text = new StringBuilder();
        int level = lot.nextInt(90);
        for (int i = 0; i < statements && text.length() < 80; i++) {
            int sort = lot.nextInt(10);
            if (sort < 6) {
                text.append('h').append(lot.nextInt(30) == 0 ? lot.nextInt(10) : lot.nextInt(6));
                text.append(lot.nextInt(10)).append(String.format("%02d", level + lot.nextInt(10)));
                text.append(aGood()).append(lot.nextInt(10)).append(aGood()).append(lot.nextInt(10));
                String coin = String.valueOf(lot.nextInt(1000));
                text.append(lot.nextInt(5) == 0 ? String.format("%03d", lot.nextInt(30)) : coin);
            } else if (sort < 7) {
                text.append('p').append(aGood()).append(lot.nextInt(10));
            } else if (sort < 8) {
                text.append('l').append(lot.nextInt(12) == 0 ? lot.nextInt(10) : lot.nextInt(3));
            } else {
                text.append('d').append(lot.nextInt(5)).append(lot.nextInt(5)).append(lot.nextInt(100));
            }
            text.append(';');
        }
        return text.toString();
    }

    private int aGood() {
        return lot.nextInt(40) == 0 ? lot.nextInt(10) : lot.nextInt(2 + lot.nextInt(2));
    }

    private String spoilt(String text) {
        int at = lot.nextInt(text.length());
        String signs = "hpld;0123456789x:/ " + (char) 0 + (char) 255;
        char sign = signs.charAt(lot.nextInt(signs.length()));
        switch (lot.nextInt(5)) {
            case 0: return text.substring(0, at);
            case 1: return text.substring(0, at) + sign + text.substring(at + 1);
            case 2: return text.substring(0, at) + sign + text.substring(at);
            default: return text;
        }
    }

    private void call(int which) {
        int a = below(6);
        int b = below(6);
        int good = below(3);
        int what = below(2);
        switch (which) {
            case 0: price(good, below(11)); break;
            case 1: due("law(" + good + ")", x.law(good), m.law(good)); break;
            case 2: due("lawful(" + a + ", " + b + ")", x.lawful(a, b), m.lawful(a, b)); break;
            case 3:
            case 4: due("sale(" + a + ", " + b + ", " + good + ")", x.sale(a, b, good), m.sale(a, b, good)); break;
            case 5:
            case 6:
            case 7: due("week()", x.week(), m.week()); break;
            case 8: mule(a, b, below(300)); break;
            case 9:
            case 10: owe(a, b, below(100)); break;
            case 11: rarely(lot.nextInt(4)); break;
            case 12: behind(a, below(61)); break;
            case 13: served(below(61), what); break;
            case 14: due("drift(" + what + ")", x.drift(what), m.drift(what)); break;
            case 15: due("stuck()", x.stuck(), m.stuck()); break;
            case 16: due("most(" + good + ")", x.most(good), m.most(good)); break;
            case 17: cellar(a, good, below(10)); break;
            case 18: paths(a, b, what); break;
            case 19: due("owed(" + a + ")", x.owed(a), m.owed(a)); break;
            case 20: due("rings(" + what + ")", x.rings(what), m.rings(what)); break;
            case 21: votes(good, 1 + below(30)); break;
            case 22:
            case 23: row(lot.nextInt(30) == 0 ? below(1000) : 100 * lot.nextInt(6) + 10 * lot.nextInt(6) + lot.nextInt(3));
                break;
            case 24: due("judge()", x.judge(), m.judge()); break;
            case 25: seeds(below(61), lot.nextInt()); break;
            case 26: count(below(18)); break;
            default: due("house(" + a + ", " + good + ")", x.house(a, good), m.house(a, good)); break;
        }
    }

    private void rarely(int which) {
        switch (which) {
            case 0: due("strike()", x.strike(), m.strike()); break;
            case 1: due("image()", x.image(), m.image()); break;
            case 2: due("restore()", x.restore(), m.restore()); break;
            default: due("feed(104)", x.feed(104), m.feed(104)); break;
        }
    }

    private void price(int good, int v) {
        due("price(" + good + ", " + v + ")", x.price(good, v), m.price(good, v));
    }

    private void mule(int a, int b, int coin) {
        due("mule(" + a + ", " + b + ", " + coin + ")", x.mule(a, b, coin), m.mule(a, b, coin));
    }

    private void owe(int a, int b, int v) {
        due("owe(" + a + ", " + b + ", " + v + ")", x.owe(a, b, v), m.owe(a, b, v));
    }

    private void behind(int house, int n) {
        due("behind(" + house + ", " + n + ")", x.behind(house, n), m.behind(house, n));
    }

    private void served(int n, int what) {
        due("served(" + n + ", " + what + ")", x.served(n, what), m.served(n, what));
    }

    private void cellar(int house, int good, int figure) {
        due("cellar(" + house + ", " + good + ", " + figure + ")", x.cellar(house, good, figure),
            m.cellar(house, good, figure));
    }

    private void paths(int a, int b, int what) {
        due("paths(" + a + ", " + b + ", " + what + ")", x.paths(a, b, what), m.paths(a, b, what));
    }

    private void votes(int law, int n) {
        due("votes(" + law + ", " + n + ")", x.votes(law, n), m.votes(law, n));
    }

    private void row(int sale) {
        due("row(" + sale + ")", x.row(sale), m.row(sale));
    }

    private void seeds(int n, int z) {
        due("seeds(" + n + ", " + z + ")", x.seeds(n, z), m.seeds(n, z));
    }

    private void count(int what) {
        due("count(" + what + ")", x.count(what), m.count(what));
    }

    /** All that can be seen, at the end of a run. */
    private void look() {
        for (int what = -1; what <= 17; what++) {
            count(what);
        }
        for (int h = 0; h < 6; h++) {
            for (int what = 0; what <= 9; what++) {
                due("house(" + h + ", " + what + ")", x.house(h, what), m.house(h, what));
            }
            for (int good = 0; good < 3; good++) {
                due("store(" + h + ", " + good + ")", x.store(h, good), m.store(h, good));
            }
        }
    }
}
