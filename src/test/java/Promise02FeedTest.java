/** Promise 2, feed: the least and the greatest letter, the first and the last of 96. */
public final class Promise02FeedTest {
    public static void main(String[] args) {
        leastLetter();
        greatestLetter();
        firstAndLast();
        fullRefusesAll();
        belowIsToldAheadOfFull();
        emptyAgainBehindMountain();
        refusedLettersDoNotCome();
        Due.end("Promise02FeedTest");
    }

    private static GoodsDownhill full() {
        GoodsDownhill x = new GoodsDownhill();
        Due.feed(x, "l1;".repeat(32));
        return x;
    }

    private static void leastLetter() {
        Due.due("feed(0)", new GoodsDownhill().feed(0), 1);
        Edge.refused("feed(-1)", -4, x -> x.feed(-1));
        Edge.refused("feed least", -4, x -> x.feed(Edge.LEAST));
    }

    private static void greatestLetter() {
        Due.due("feed(255)", new GoodsDownhill().feed(255), 1);
        Edge.refused("feed(256)", -6, x -> x.feed(256));
        Edge.refused("feed greatest", -6, x -> x.feed(Edge.GREATEST));
    }

    private static void firstAndLast() {
        GoodsDownhill x = new GoodsDownhill();
        for (int n = 1; n <= 96; n++) {
            Due.due("letters ahead of the " + n + "th", x.count(6), n - 1);
            Due.due("feed the " + n + "th", x.feed(n * 255 / 96), n);
        }
        Due.due("letters", x.count(6), 96);
        Due.due("the 97th", x.feed(';'), -6);
        Due.due("letters", x.count(6), 96);
    }

    private static void fullRefusesAll() {
        int[] letters = {0, ';', 255, 256, Edge.GREATEST};
        for (int letter : letters) {
            Edge.refused("feed(" + letter + ") when full", -6, Promise02FeedTest::full, x -> x.feed(letter));
        }
    }

    private static void belowIsToldAheadOfFull() {
        Edge.refused("feed(-1) when full", -4, Promise02FeedTest::full, x -> x.feed(-1));
        Edge.refused("feed least when full", -4, Promise02FeedTest::full, x -> x.feed(Edge.LEAST));
    }

    private static void emptyAgainBehindMountain() {
        GoodsDownhill x = full();
        Due.due("mountain", x.mountain(), 32);
        for (int n = 1; n <= 96; n++) {
            Due.due("feed again", x.feed('x'), n);
        }
        Due.due("full again", x.feed('x'), -6);
        Due.due("mountain", x.mountain(), -1000);
        Due.due("feed again", x.feed('x'), 1);
    }

    private static void refusedLettersDoNotCome() {
        GoodsDownhill x = new GoodsDownhill();
        x.feed('l');
        x.feed(256);
        x.feed('2');
        x.feed(-1);
        Due.due("letters", x.feed(';'), 3);
        Due.due("mountain", x.mountain(), 1);
        Due.due("law", x.count(2), 2);
    }
}
