/** Promise 8, lawful: levels one less, alike and one more by each law, refusals. */
public final class Promise08LawfulTest {
    public static void main(String[] args) {
        lessAlikeMore();
        levelsOfKindsCount();
        hermits();
        levelsBelowNothing();
        sameHeightByAnyLaw();
        noSuchHouse();
        oneHouseTwice();
        Due.end("Promise08LawfulTest");
    }

    /** From house 0 to 1: its level against the other's. */
    private static void levels(String seller, String buyer, int down, int up) {
        GoodsDownhill x = Due.with(seller + buyer);
        Due.due("down " + seller + buyer, x.lawful(0, 1), down);
        x.law(1);
        Due.due("up " + seller + buyer, x.lawful(0, 1), up);
        x.law(2);
        Due.due("any " + seller + buyer, x.lawful(0, 1), 1);
    }

    private static String at(int kind, int figure, int height) {
        return Due.house(kind, figure, height, "00", "00", 0);
    }

    private static void lessAlikeMore() {
        levels(at(0, 0, 30), at(0, 0, 29), 1, 0);
        levels(at(0, 0, 30), at(0, 0, 30), 0, 0);
        levels(at(0, 0, 30), at(0, 0, 31), 0, 1);
        levels(at(0, 0, 0), at(0, 0, 99), 0, 1);
        levels(at(0, 0, 99), at(0, 0, 0), 1, 0);
    }

    /** Figures bring the levels to be alike, one less or one more. */
    private static void levelsOfKindsCount() {
        levels(at(0, 9, 30), at(1, 0, 31), 0, 1);
        levels(at(0, 9, 30), at(1, 1, 31), 0, 0);
        levels(at(0, 9, 30), at(1, 2, 31), 1, 0);
        levels(at(2, 1, 30), at(0, 9, 32), 0, 1);
        levels(at(2, 2, 30), at(0, 9, 32), 0, 0);
        levels(at(2, 3, 30), at(0, 9, 32), 1, 0);
        levels(at(4, 2, 30), at(4, 1, 34), 0, 1);
        levels(at(4, 2, 30), at(4, 2, 34), 0, 0);
        levels(at(4, 2, 30), at(4, 3, 34), 1, 0);
        levels(at(5, 2, 30), at(5, 2, 37), 0, 1);
        levels(at(5, 2, 30), at(5, 2, 36), 0, 0);
        levels(at(5, 2, 30), at(5, 2, 35), 1, 0);
        levels(at(1, 9, 30), at(2, 9, 30), 0, 0);
    }

    private static void hermits() {
        levels(at(5, 9, 99), at(3, 9, 0), 0, 1);
        levels(at(3, 9, 99), at(3, 9, 0), 0, 1);
        levels(at(3, 9, 30), at(0, 9, 29), 1, 0);
        levels(at(3, 9, 30), at(0, 9, 30), 0, 0);
    }

    private static void levelsBelowNothing() {
        levels(at(0, 0, 0), at(1, 1, 0), 1, 0);
        levels(at(0, 0, 0), at(1, 0, 0), 0, 0);
        levels(at(0, 0, 0), at(5, 9, 0), 1, 0);
        levels(at(0, 0, 0), at(5, 9, 18), 0, 0);
        levels(at(0, 0, 0), at(5, 9, 19), 0, 1);
    }

    private static void sameHeightByAnyLaw() {
        GoodsDownhill x = Edge.idle(6);
        x.law(2);
        for (int a = 0; a < 6; a++) {
            for (int b = 0; b < 6; b++) {
                Due.due("any lawful(" + a + ", " + b + ")", x.lawful(a, b), a == b ? -1 : 1);
            }
        }
    }

    private static void noSuchHouse() {
        for (int h : Edge.NO_HOUSE) {
            Edge.refused("lawful(" + h + ", 0)", -1, x -> x.lawful(h, 0));
            Edge.refused("lawful(2, " + h + ")", -1, x -> x.lawful(2, h));
            Edge.refused("lawful(" + h + ", " + h + ")", -1, x -> x.lawful(h, h));
        }
    }

    private static void oneHouseTwice() {
        for (int h = 0; h < 3; h++) {
            int asked = h;
            Edge.refused("lawful(" + h + ", " + h + ")", -1, x -> x.lawful(asked, asked));
        }
    }
}
