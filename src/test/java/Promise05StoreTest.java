/** Promise 5, store: empty and full stores, refusals. */
public final class Promise05StoreTest {
    public static void main(String[] args) {
        emptyAtFirst();
        fullAt99();
        emptiedByUse();
        noSuchHouse();
        noSuchGood();
        neither();
        Due.end("Promise05StoreTest");
    }

    private static void emptyAtFirst() {
        GoodsDownhill x = Due.with(Due.house(0, 0, 50, "09", "19", 999));
        for (int good = 0; good < 3; good++) {
            Due.due("store(0, " + good + ")", x.store(0, good), 0);
        }
    }

    private static void fullAt99() {
        GoodsDownhill x = Due.with(Due.house(0, 0, 50, "29", "00", 0));
        for (int w = 1; w <= 11; w++) {
            x.week();
            Due.due("store behind " + w, x.store(0, 2), 9 * w);
        }
        x.week();
        Due.due("full", x.store(0, 2), 99);
        Due.due("another good", x.store(0, 0), 0);
        Due.due("another good", x.store(0, 1), 0);
    }

    private static void emptiedByUse() {
        GoodsDownhill x = Due.with(Due.house(0, 0, 50, "19", "19", 0));
        Due.due("week", x.week(), 9);
        Due.due("store", x.store(0, 1), 0);
    }

    private static void noSuchHouse() {
        for (int h : Edge.NO_HOUSE) {
            for (int good = 0; good < 3; good++) {
                int asked = good;
                Edge.refused("store(" + h + ", " + good + ")", -1, x -> x.store(h, asked));
            }
        }
        Edge.refused("store(0, 0) without houses", -1, GoodsDownhill::new, x -> x.store(0, 0));
        Edge.refused("store(6, 0) of six", -1, () -> Edge.idle(6), x -> x.store(6, 0));
    }

    private static void noSuchGood() {
        for (int good : Edge.NO_GOOD) {
            Edge.refused("store(0, " + good + ")", -1, x -> x.store(0, good));
            Edge.refused("store(2, " + good + ")", -1, x -> x.store(2, good));
        }
    }

    private static void neither() {
        Edge.refused("store(3, 3)", -1, x -> x.store(3, 3));
        Edge.refused("store(-1, -1)", -1, x -> x.store(-1, -1));
    }
}
