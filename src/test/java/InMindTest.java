/** Promises 14 to 16, 23 and 26: weeks in mind, where coin drifts to, who is for a law, sales by lot. */
public final class InMindTest {
    public static void main(String[] args) {
        behindAndServed();
        nobodySendsTheMule();
        drift();
        driftUpTo100();
        driftNever();
        driftOfSeveralTheLeast();
        votes();
        votesCountAllWeeks();
        seeds();
        Due.end("InMindTest");
    }

    /** House 1 buys two a week while its coin lasts. */
    private static GoodsDownhill buyer(int sellersCoin, int coin, int wants) {
        return Due.with(Due.house(0, 0, 50, "05", "10", sellersCoin) + Due.house(0, 0, 40, "10", "0" + wants, coin));
    }

    private static void behindAndServed() {
        GoodsDownhill x = buyer(7, 5, 2);
        int[] coin = {5, 3, 1, 0, 0};
        int[] served = {0, 2, 4, 5, 5};
        int[] lacks = {0, 0, 0, 1, 2};
        for (int n = 0; n < coin.length; n++) {
            Due.due("behind(1, " + n + ")", x.behind(1, n), coin[n]);
            Due.due("behind(0, " + n + ")", x.behind(0, n), 12 - coin[n]);
            Due.due("served(" + n + ", 0)", x.served(n, 0), served[n]);
            Due.due("served(" + n + ", 1)", x.served(n, 1), lacks[n]);
        }
        Due.due("behind(1, 60)", x.behind(1, 60), 0);
        Due.due("served(60, 0)", x.served(60, 0), 5);
        Due.due("behind(1, 61)", x.behind(1, 61), -6);
        Due.due("behind(1, -1)", x.behind(1, -1), -4);
        Due.due("behind(2, -1)", x.behind(2, -1), -1);
        Due.due("behind(-1, 0)", x.behind(-1, 0), -1);
        Due.due("served(61, 0)", x.served(61, 0), -6);
        Due.due("served(-1, 1)", x.served(-1, 1), -4);
        Due.due("served(-1, 2)", x.served(-1, 2), -2);
        Due.due("served(0, -1)", x.served(0, -1), -2);
        Due.due("nothing has changed", x.count(1), 0);
        Due.due("nothing has changed", x.count(4), 0);
        Due.due("nothing has changed", x.house(1, 9), 5);
        x.week();
        Due.due("from now", x.behind(1, 1), 1);
        Due.due("from now", x.served(60, 0), 3);
        x.law(2);
        Due.due("by the law", x.served(1, 0), 2);
        x.law(1);
        Due.due("by the law", x.served(1, 0), 0);
    }

    private static void nobodySendsTheMule() {
        GoodsDownhill x = buyer(0, 5, 2);
        x.mule(1, 0, 1);
        Due.due("served(60, 0)", x.served(60, 0), 4);
        Due.due("weeks till it can", x.count(8), 52);
        Due.due("lacks without houses", new GoodsDownhill().served(60, 1), 0);
    }

    private static void drift() {
        GoodsDownhill x = buyer(0, 5, 2);
        Due.due("drift(0)", x.drift(0), 3);
        Due.due("drift(1)", x.drift(1), 0);
        Due.due("drift(2)", x.drift(2), -2);
        Due.due("drift(-1)", x.drift(-1), -2);
        x.week();
        Due.due("drift(0)", x.drift(0), 2);
        x.law(1);
        Due.due("drift(0)", x.drift(0), 0);
        Due.due("drift(1)", x.drift(1), 1);
        GoodsDownhill none = new GoodsDownhill();
        Due.due("drift(0) without houses", none.drift(0), -3);
        Due.due("drift(2) without houses", none.drift(2), -2);
    }

    private static void driftUpTo100() {
        Due.due("behind 99", buyer(0, 99, 1).drift(0), 99);
        Due.due("behind 100", buyer(0, 100, 1).drift(0), 100);
        Due.due("the house behind 100", buyer(0, 100, 1).drift(1), 0);
        Due.due("not behind 101", buyer(0, 101, 1).drift(0), -9);
        Due.due("no house behind 101", buyer(0, 101, 1).drift(1), -9);
        GoodsDownhill x = buyer(0, 101, 1);
        x.drift(0);
        Due.due("no refusal", x.count(11) + x.count(12) + x.count(13) + x.count(14) + x.count(16), 0);
    }

    private static void driftNever() {
        GoodsDownhill x = Due.with(Due.house(0, 0, 50, "02", "12", 9) + Due.house(0, 0, 40, "12", "02", 9) + "l2;");
        Due.due("round and round", x.drift(0), -9);
        Due.due("round and round", x.drift(1), -9);
        Due.due("as it was", x.count(1), 0);
        Due.due("all served", x.served(60, 0), 240);
    }

    private static void driftOfSeveralTheLeast() {
        GoodsDownhill x = Due.with(Due.house(0, 0, 50, "00", "00", 3) + Due.house(0, 0, 40, "00", "00", 8)
            + Due.house(0, 0, 40, "00", "00", 8) + Due.house(0, 0, 40, "00", "00", 7));
        Due.due("drift(0)", x.drift(0), 0);
        Due.due("drift(1)", x.drift(1), 1);
    }

    private static void votes() {
        GoodsDownhill x = Due.with(Due.house(0, 0, 50, "02", "13", 99) + Due.house(0, 0, 40, "13", "02", 99)
            + Due.house(3, 0, 10, "20", "21", 5));
        Due.due("as it is", x.votes(0, 1), 0);
        Due.due("up", x.votes(1, 1), 1);
        Due.due("any", x.votes(2, 30), 1);
        x.law(1);
        Due.due("down", x.votes(0, 5), 2);
        Due.due("as it is", x.votes(1, 30), 0);
        Due.due("any", x.votes(2, 5), 2);
        x.law(2);
        Due.due("down", x.votes(0, 5), 0);
        Due.due("the law stays", x.count(2), 2);
        Due.due("WEEK stays", x.count(1), 0);
        Due.due("votes(3, 1)", x.votes(3, 1), -2);
        Due.due("votes(-1, 0)", x.votes(-1, 0), -2);
        Due.due("votes(0, 0)", x.votes(0, 0), -4);
        Due.due("votes(0, 31)", x.votes(0, 31), -6);
        Due.due("nobody to vote", new GoodsDownhill().votes(1, 30), 0);
    }

    /** House 1 can pay for three pieces in all by either law; by UP its seller has them sooner. */
    private static void votesCountAllWeeks() {
        GoodsDownhill x = Due.with(Due.house(0, 0, 50, "01", "20", 0) + Due.house(0, 0, 40, "10", "03", 3)
            + Due.house(0, 0, 30, "03", "20", 0));
        Due.due("more in one week", x.votes(1, 1), 2);
        Due.due("more in two", x.votes(1, 2), 2);
        Due.due("as many in three", x.votes(1, 3), 0);
    }

    /** The numbers are told by a third telling of the draws, beside the class and the model. */
    private static void seeds() {
        GoodsDownhill x = Due.with(Due.house(0, 0, 50, "09", "10", 9) + Due.house(0, 0, 40, "19", "10", 9)
            + Due.house(0, 0, 30, "29", "10", 9) + "l2;");
        x.week();
        int[] seeds = {0, 1, -1, 7, 123456789, Integer.MIN_VALUE, Integer.MAX_VALUE};
        int[] of60 = {28, 25, 30, 14, 25, 28, 30};
        int[] of5 = {2, 0, 0, 0, 1, 2, 0};
        for (int i = 0; i < seeds.length; i++) {
            Due.due("seeds(60, " + seeds[i] + ")", x.seeds(60, seeds[i]), of60[i]);
            Due.due("seeds(5, " + seeds[i] + ")", x.seeds(5, seeds[i]), of5[i]);
        }
        Due.due("seeds(0, 1)", x.seeds(0, 1), -4);
        Due.due("seeds(61, 1)", x.seeds(61, 1), -6);
        Due.due("in mind alone", x.count(4), 27);
        Due.due("in mind alone", x.house(0, 9), 9);
        GoodsDownhill none = new GoodsDownhill();
        Due.due("no houses", none.seeds(60, 1), -3);
        Due.due("below ahead of no houses", none.seeds(0, 1), -4);
        Due.due("above ahead of no houses", none.seeds(61, 1), -6);
        Due.due("one house has nobody to sell to", Due.with(Due.house(0, 0, 5, "09", "00", 9)).seeds(60, 5), 0);
    }
}
