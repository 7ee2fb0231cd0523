/** Promises 11 to 13, 21 and 22: the mule, debts, striking, what is owed, rings in mind. */
public final class DebtTest {
    private static final String HOUSE = "h0050001010;";

    public static void main(String[] args) {
        mule();
        muleRefused();
        owe();
        ringOfTwo();
        ringOfThree();
        twoAheadOfThree();
        ringsShareADebt();
        ringsInOrder();
        ringOfFourIsNone();
        Due.end("DebtTest");
    }

    private static GoodsDownhill houses(int n) {
        return Due.with(HOUSE.repeat(n));
    }

    private static void mule() {
        GoodsDownhill x = houses(2);
        Due.due("it can go now", x.count(8), 0);
        x.week();
        Due.due("mule", x.mule(0, 1, 10), 53);
        Due.due("coin of 0", x.house(0, 9), 0);
        Due.due("coin of 1", x.house(1, 9), 20);
        Due.due("not yet", x.mule(1, 0, 1), -3);
        Due.due("weeks till it can", x.count(8), 52);
        for (int w = 1; w < 52; w++) {
            x.week();
            Due.due("weeks till it can", x.count(8), 52 - w);
            Due.due("not yet", x.mule(1, 0, 1), -3);
        }
        x.week();
        Due.due("it can go now", x.count(8), 0);
        x.week();
        Due.due("it can go now", x.count(8), 0);
        Due.due("mule", x.mule(1, 0, 1), 106);
        Due.due("coin of 0", x.house(0, 9), 1);
        Due.due("weeks till it can", x.count(8), 52);
    }

    private static void muleRefused() {
        GoodsDownhill x = houses(2);
        Due.due("one house twice", x.mule(0, 0, 1), -1);
        Due.due("nobody", x.mule(0, 2, 1), -1);
        Due.due("nobody", x.mule(-1, 0, 1), -1);
        Due.due("nobody and below", x.mule(0, 0, 0), -1);
        Due.due("below", x.mule(0, 1, 0), -4);
        Due.due("below", x.mule(0, 1, Integer.MIN_VALUE), -4);
        Due.due("has not so much", x.mule(0, 1, 11), -6);
        Due.due("has not so much", x.mule(0, 1, Integer.MAX_VALUE), -6);
        Due.due("it did not go", x.count(8), 0);
        Due.due("mule", x.mule(0, 1, 1), 52);
        Due.due("below ahead of not yet", x.mule(0, 1, 0), -4);
        Due.due("not yet ahead of too much", x.mule(0, 1, 11), -3);
    }

    private static void owe() {
        GoodsDownhill x = houses(3);
        Due.due("owe", x.owe(0, 1, 99), 0);
        Due.due("owe", x.owe(0, 1, 40), 99);
        Due.due("owe", x.owe(2, 1, 3), 0);
        Due.due("owe", x.owe(1, 0, 5), 0);
        Due.due("debts", x.count(5), 48);
        Due.due("owed(0)", x.owed(0), -35);
        Due.due("owed(1)", x.owed(1), 38);
        Due.due("owed(2)", x.owed(2), -3);
        Due.due("owed(3)", x.owed(3), 1000000001);
        Due.due("owed(-1)", x.owed(-1), 1000000001);
        Due.due("one house twice", x.owe(1, 1, 0), -1);
        Due.due("nobody", x.owe(3, 1, 0), -1);
        Due.due("nobody and below", x.owe(0, 3, -1), -1);
        Due.due("below", x.owe(0, 1, -1), -4);
        Due.due("above", x.owe(0, 1, 100), -6);
        Due.due("owe", x.owe(0, 1, 0), 40);
        Due.due("debts", x.count(5), 8);
        Due.due("coin is as it was", x.count(3), 30);
    }

    private static void ringOfTwo() {
        GoodsDownhill x = houses(2);
        x.owe(0, 1, 5);
        Due.due("no ring", x.strike(), 0);
        x.owe(1, 0, 7);
        Due.due("rings", x.rings(0), 1);
        Due.due("how much less", x.rings(1), 10);
        Due.due("in mind alone", x.count(5), 12);
        Due.due("rings(2)", x.rings(2), -2);
        Due.due("rings(-1)", x.rings(-1), -2);
        Due.due("strike", x.strike(), 1);
        Due.due("debts", x.count(5), 2);
        Due.due("what 0 owed 1", x.owe(0, 1, 0), 0);
        Due.due("what 1 owed 0", x.owe(1, 0, 0), 2);
        Due.due("strike", x.strike(), 0);
        Due.due("rings", x.rings(0), 0);
        Due.due("how much less", x.rings(1), 0);
    }

    private static void ringOfThree() {
        GoodsDownhill x = houses(3);
        x.owe(0, 2, 4);
        x.owe(2, 1, 9);
        Due.due("no ring", x.strike(), 0);
        x.owe(1, 0, 6);
        Due.due("how much less", x.rings(1), 12);
        Due.due("strike", x.strike(), 1);
        Due.due("what 0 owed 2", x.owe(0, 2, 0), 0);
        Due.due("what 2 owed 1", x.owe(2, 1, 0), 5);
        Due.due("what 1 owed 0", x.owe(1, 0, 0), 2);
    }

    private static void twoAheadOfThree() {
        GoodsDownhill x = houses(3);
        x.owe(0, 1, 2);
        x.owe(1, 2, 2);
        x.owe(2, 0, 2);
        x.owe(2, 1, 2);
        Due.due("strike", x.strike(), 1);
        Due.due("debts", x.count(5), 4);
        Due.due("what 1 owed 2", x.owe(1, 2, 0), 0);
        Due.due("what 0 owed 1", x.owe(0, 1, 0), 2);
    }

    private static void ringsShareADebt() {
        GoodsDownhill x = houses(4);
        x.owe(0, 1, 4);
        x.owe(1, 2, 3);
        x.owe(2, 0, 9);
        x.owe(1, 3, 5);
        x.owe(3, 0, 6);
        Due.due("rings", x.rings(0), 2);
        Due.due("how much less", x.rings(1), 12);
        Due.due("strike", x.strike(), 2);
        Due.due("what 0 owed 1", x.owe(0, 1, 0), 0);
        Due.due("what 2 owed 0", x.owe(2, 0, 0), 6);
        Due.due("what 3 owed 0", x.owe(3, 0, 0), 5);
        Due.due("what 1 owed 3", x.owe(1, 3, 0), 4);
    }

    /** Of two rings with one debt in common the one with the lesser first house, second house goes first. */
    private static void ringsInOrder() {
        GoodsDownhill x = houses(6);
        x.owe(4, 5, 2);
        x.owe(5, 0, 2);
        x.owe(0, 4, 2);
        x.owe(5, 1, 2);
        x.owe(1, 4, 2);
        Due.due("strike", x.strike(), 1);
        Due.due("the ring of 0 is struck", x.owe(5, 0, 0), 0);
        Due.due("the ring of 1 is none then", x.owe(5, 1, 0), 2);
        GoodsDownhill y = houses(6);
        y.owe(5, 0, 2);
        y.owe(0, 2, 2);
        y.owe(2, 5, 2);
        y.owe(0, 1, 2);
        y.owe(1, 5, 2);
        Due.due("strike", y.strike(), 1);
        Due.due("the ring by 1 is struck", y.owe(0, 1, 0), 0);
        Due.due("the ring by 2 is none then", y.owe(0, 2, 0), 2);
    }

    private static void ringOfFourIsNone() {
        GoodsDownhill x = houses(4);
        x.owe(0, 1, 2);
        x.owe(1, 2, 2);
        x.owe(2, 3, 2);
        x.owe(3, 0, 2);
        Due.due("strike", x.strike(), 0);
        Due.due("debts", x.count(5), 8);
    }
}
