/** Promise 26, seeds: 1 and 60 sales, seeds at the ends of an int, one house, refusals and their order. */
public final class Promise26SeedsTest {
    private static final int[] SEEDS = {0, 1, -1, 2, 7, 12345, -12345, 65535, 65536, 1103515245, Edge.LEAST,
        Edge.LEAST + 1, Edge.GREATEST, Edge.GREATEST - 1};

    public static void main(String[] args) {
        asSalesWouldBring();
        oneHouse();
        nothingToSell();
        inMindAlone();
        below();
        above();
        noHouses();
        numbersAreToldFirst();
        Due.end("Promise26SeedsTest");
    }

    private static GoodsDownhill houses(int n, int law) {
        GoodsDownhill x = new GoodsDownhill();
        for (int h = 0; h < n; h++) {
            Due.tell(x, Due.house(h, 3, 50 - h, h % 3 + "9", "00", 12));
        }
        x.law(law);
        x.week();
        return x;
    }

    /** Draws told in longs, and the sales made one by one. */
    private static int salesMade(GoodsDownhill x, int n, int z) {
        long seed = z & 0xffffffffL;
        int houses = x.count(0);
        int made = 0;
        for (int i = 0; i < n; i++) {
            int[] drawn = new int[3];
            for (int d = 0; d < 3; d++) {
                seed = (seed * 1103515245L + 12345L) % (1L << 32);
                drawn[d] = (int) (seed % (1L << 31) / 65536 % (d < 2 ? houses : 3));
            }
            if (x.sale(drawn[0], drawn[1], drawn[2]) >= 0) {
                made++;
            }
        }
        return made;
    }

    private static void asSalesWouldBring() {
        int all = 0;
        for (int houses = 2; houses <= 6; houses++) {
            for (int law = 0; law <= 2; law++) {
                for (int z : SEEDS) {
                    int[] many = {1, 2, 59, 60};
                    for (int n : many) {
                        int made = salesMade(houses(houses, law), n, z);
                        Due.due("seeds(" + n + ", " + z + ") of " + houses, houses(houses, law).seeds(n, z), made);
                        all += made;
                    }
                }
            }
        }
        Due.holds("some sales were made", all > 0);
    }

    private static void oneHouse() {
        for (int z : SEEDS) {
            Due.due("one house has nobody to sell to", houses(1, 2).seeds(60, z), 0);
        }
    }

    private static void nothingToSell() {
        GoodsDownhill x = Edge.idle(6);
        x.law(2);
        for (int z : SEEDS) {
            Due.due("nothing in stores", x.seeds(60, z), 0);
        }
        Due.due("what can't be is no refusal", x.count(11) + x.count(13), 0);
    }

    private static void inMindAlone() {
        Edge.asked("seeds(60, 1)", houses(3, 2).seeds(60, 1), () -> houses(3, 2), x -> x.seeds(60, 1));
        Edge.asked("seeds(60, 1)", Edge.busy().seeds(60, 1), Edge::busy, x -> x.seeds(60, 1));
    }

    private static void below() {
        int[] many = {0, -1, Edge.LEAST};
        for (int n : many) {
            Edge.refused("seeds(" + n + ", 1)", -4, x -> x.seeds(n, 1));
        }
    }

    private static void above() {
        int[] many = {61, Edge.GREATEST};
        for (int n : many) {
            Edge.refused("seeds(" + n + ", 1)", -6, x -> x.seeds(n, 1));
        }
    }

    private static void noHouses() {
        for (int z : SEEDS) {
            Edge.refused("seeds(1, " + z + ") without houses", -3, GoodsDownhill::new, x -> x.seeds(1, z));
            Edge.refused("seeds(60, " + z + ") without houses", -3, GoodsDownhill::new, x -> x.seeds(60, z));
        }
    }

    private static void numbersAreToldFirst() {
        Edge.refused("seeds(0, 1) without houses", -4, GoodsDownhill::new, x -> x.seeds(0, 1));
        Edge.refused("seeds(61, 1) without houses", -6, GoodsDownhill::new, x -> x.seeds(61, 1));
    }
}
