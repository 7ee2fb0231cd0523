import java.lang.reflect.Field;

/**
 * Reaches into an object: six houses with 999 coins each never bring one of them near 9999 by calls, but the
 * document names what happens there.
 */
final class Inside {
    private Inside() {
    }

    static void putCoin(GoodsDownhill x, int house, int coin) {
        try {
            Field now = GoodsDownhill.class.getDeclaredField("now");
            now.setAccessible(true);
            Object land = now.get(x);
            Field coins = land.getClass().getDeclaredField("coin");
            coins.setAccessible(true);
            ((int[]) coins.get(land))[house] = coin;
        } catch (ReflectiveOperationException e) {
            throw new IllegalStateException("the class holds its coin otherwise now: mend this helper", e);
        }
        Due.due("coin put by hand", x.house(house, 9), coin);
    }
}
