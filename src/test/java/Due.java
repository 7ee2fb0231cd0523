/** What all tests share: answers that are due, mountains told as texts, and how a test ends. */
final class Due {
    private static int rows = 0;
    private static int wrong = 0;

    private Due() {
    }

    static void due(String call, long got, long want) {
        rows++;
        if (got != want) {
            wrong++;
            System.out.println(call + " answered " + got + ", due is " + want);
        }
    }

    static void holds(String what, boolean is) {
        due(what, is ? 1 : 0, 1);
    }

    /** Feeds the letters of a text one by one. */
    static void feed(GoodsDownhill x, String letters) {
        for (int i = 0; i < letters.length(); i++) {
            x.feed(letters.charAt(i));
        }
    }

    static int tell(GoodsDownhill x, String letters) {
        feed(x, letters);
        return x.mountain();
    }

    /** A house's statement; it makes so many of a good and wants so many of a good. */
    static String house(int kind, int figure, int height, String makes, String wants, int coin) {
        return String.format("h%d%d%02d%s%s%d;", kind, figure, height, makes, wants, coin);
    }

    /** A new object with a mountain that must be without fault. */
    static GoodsDownhill with(String letters) {
        GoodsDownhill x = new GoodsDownhill();
        int statements = tell(x, letters);
        holds("mountain \"" + letters + "\" is without fault", statements > 0);
        return x;
    }

    static void end(String test) {
        System.out.println(test + ": " + rows + " answers, " + wrong + " not as due");
        if (wrong != 0 || rows == 0) {
            System.exit(1);
        }
    }
}
