/** Promise 13, strike: no ring, rings of two, three and four, all debts at once, and which ring is first. */
public final class Promise13StrikeTest {
    public static void main(String[] args) {
        nothingToStrike();
        chainsAreNoRings();
        leastRingOfTwo();
        leastRingOfThree();
        bothWaysOfThree();
        ringOfFourIsNone();
        ringOfSixIsNone();
        allDebts();
        twoAheadOfThree();
        leastHouseFirst();
        secondHouseNext();
        thirdHouseNext();
        lastHouses();
        Due.end("Promise13StrikeTest");
    }

    private static GoodsDownhill owing(int... debts) {
        GoodsDownhill x = Edge.idle(6);
        for (int i = 0; i + 2 < debts.length; i += 3) {
            x.owe(debts[i], debts[i + 1], debts[i + 2]);
        }
        return x;
    }

    private static void debt(GoodsDownhill x, int a, int b, int want) {
        Due.due("what " + a + " owes " + b, x.owe(a, b, 0), want);
    }

    private static void nothingToStrike() {
        Due.due("no houses", new GoodsDownhill().strike(), 0);
        Due.due("one house", Edge.idle(1).strike(), 0);
        Due.due("no debts", Edge.idle(6).strike(), 0);
    }

    private static void chainsAreNoRings() {
        Edge.asked("one debt", 0, () -> owing(0, 1, 99), GoodsDownhill::strike);
        Edge.asked("two debts", 0, () -> owing(0, 1, 99, 1, 2, 99), GoodsDownhill::strike);
        Edge.asked("both to one", 0, () -> owing(0, 2, 99, 1, 2, 99, 0, 1, 99), GoodsDownhill::strike);
    }

    private static void leastRingOfTwo() {
        GoodsDownhill x = owing(4, 5, 1, 5, 4, 99);
        Due.due("strike", x.strike(), 1);
        debt(x, 4, 5, 0);
        debt(x, 5, 4, 98);
        GoodsDownhill like = owing(0, 1, 99, 1, 0, 99);
        Due.due("strike", like.strike(), 1);
        Due.due("all debts", like.count(5), 0);
        Due.due("no more", like.strike(), 0);
    }

    private static void leastRingOfThree() {
        GoodsDownhill x = owing(0, 1, 99, 1, 2, 1, 2, 0, 50);
        Due.due("strike", x.strike(), 1);
        debt(x, 0, 1, 98);
        debt(x, 1, 2, 0);
        debt(x, 2, 0, 49);
    }

    /** By rings of two nothing of either is left. */
    private static void bothWaysOfThree() {
        GoodsDownhill x = owing(0, 1, 5, 1, 2, 5, 2, 0, 5, 1, 0, 5, 2, 1, 5, 0, 2, 5);
        Due.due("strike", x.strike(), 3);
        Due.due("all debts", x.count(5), 0);
    }

    private static void ringOfFourIsNone() {
        Edge.asked("a ring of four", 0, () -> owing(0, 1, 9, 1, 2, 9, 2, 3, 9, 3, 0, 9), GoodsDownhill::strike);
    }

    private static void ringOfSixIsNone() {
        GoodsDownhill x = owing(0, 1, 9, 1, 2, 9, 2, 3, 9, 3, 4, 9, 4, 5, 9, 5, 0, 9);
        Due.due("a ring of six", x.strike(), 0);
        Due.due("all debts", x.count(5), 54);
    }

    private static void allDebts() {
        GoodsDownhill x = Edge.idle(6);
        for (int a = 0; a < 6; a++) {
            for (int b = 0; b < 6; b++) {
                x.owe(a, b, 99);
            }
        }
        Due.due("strike", x.strike(), 15);
        Due.due("all debts", x.count(5), 0);
    }

    /** The ring of two takes away the debt that the ring of three needs. */
    private static void twoAheadOfThree() {
        GoodsDownhill x = owing(0, 1, 3, 1, 2, 3, 2, 0, 3, 2, 1, 3);
        Due.due("strike", x.strike(), 1);
        debt(x, 0, 1, 3);
        debt(x, 2, 0, 3);
        debt(x, 1, 2, 0);
        debt(x, 2, 1, 0);
    }

    /** Rings 0 4 5 and 1 4 5 have the debt of 4 to 5 in common. */
    private static void leastHouseFirst() {
        GoodsDownhill x = owing(4, 5, 3, 5, 1, 3, 1, 4, 3, 5, 0, 3, 0, 4, 3);
        Due.due("strike", x.strike(), 1);
        debt(x, 0, 4, 0);
        debt(x, 5, 0, 0);
        debt(x, 1, 4, 3);
        debt(x, 5, 1, 3);
    }

    /** Rings 0 1 5 and 0 2 5 have the debt of 5 to 0 in common. */
    private static void secondHouseNext() {
        GoodsDownhill x = owing(5, 0, 3, 0, 2, 3, 2, 5, 3, 0, 1, 3, 1, 5, 3);
        Due.due("strike", x.strike(), 1);
        debt(x, 0, 1, 0);
        debt(x, 1, 5, 0);
        debt(x, 0, 2, 3);
        debt(x, 2, 5, 3);
    }

    /** Rings 0 5 1 and 0 5 2 have the debt of 0 to 5 in common. */
    private static void thirdHouseNext() {
        GoodsDownhill x = owing(0, 5, 3, 5, 2, 3, 2, 0, 3, 5, 1, 3, 1, 0, 3);
        Due.due("strike", x.strike(), 1);
        debt(x, 5, 1, 0);
        debt(x, 1, 0, 0);
        debt(x, 5, 2, 3);
        debt(x, 2, 0, 3);
    }

    private static void lastHouses() {
        GoodsDownhill x = owing(3, 4, 2, 4, 5, 2, 5, 3, 2);
        Due.due("the last three", x.strike(), 1);
        Due.due("all debts", x.count(5), 0);
        GoodsDownhill y = owing(3, 5, 2, 5, 4, 2, 4, 3, 2);
        Due.due("the last three, the other way", y.strike(), 1);
        Due.due("all debts", y.count(5), 0);
    }
}
