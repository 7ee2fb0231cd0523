/** Promises 1 to 4: a new object, letters, mountains and their faults, what a house is. */
public final class MountainTest {
    private static final String HOUSE = "h00500513100;";

    public static void main(String[] args) {
        newObject();
        feed();
        goodMountains();
        wrongLetters();
        wrongStatements();
        faultChangesNothing();
        roomForSixHouses();
        longestMountain();
        houses();
        Due.end("MountainTest");
    }

    private static void newObject() {
        GoodsDownhill x = new GoodsDownhill();
        for (int what = 0; what <= 8; what++) {
            Due.due("new count(" + what + ")", x.count(what), 0);
        }
        for (int what = 11; what <= 16; what++) {
            Due.due("new count(" + what + ")", x.count(what), 0);
        }
        for (int good = 0; good < 3; good++) {
            Due.due("new price of " + good, x.price(good, 1), 1);
        }
        Due.due("new law", x.law(0), 0);
        Due.due("new house(0, 0)", x.house(0, 0), -1);
        Due.due("new restore()", x.restore(), -3);
        Due.due("new week()", x.week(), 0);
    }

    private static void feed() {
        GoodsDownhill x = new GoodsDownhill();
        Due.due("feed(0)", x.feed(0), 1);
        Due.due("feed(255)", x.feed(255), 2);
        Due.due("feed(-1)", x.feed(-1), -4);
        Due.due("feed(256)", x.feed(256), -6);
        Due.due("feed least", x.feed(Integer.MIN_VALUE), -4);
        Due.due("feed greatest", x.feed(Integer.MAX_VALUE), -6);
        Due.due("letters", x.count(6), 2);
        for (int n = 3; n <= 96; n++) {
            Due.due("feed the " + n + "th", x.feed('h'), n);
        }
        Due.due("feed the 97th", x.feed('h'), -6);
        Due.due("feed(-1) when full", x.feed(-1), -4);
        Due.due("letters", x.count(6), 96);
        Due.due("refused -4", x.count(14), 3);
        Due.due("refused -6", x.count(16), 3);
        Due.due("mountain()", x.mountain(), -1000);
        Due.due("letters are no more", x.count(6), 0);
        Due.due("feed again", x.feed('h'), 1);
    }

    private static void goodMountains() {
        GoodsDownhill x = new GoodsDownhill();
        Due.due("law", Due.tell(x, "l2;"), 1);
        Due.due("law is", x.count(2), 2);
        Due.due("prices, one good twice", Due.tell(x, "p04;p19;p25;p26;"), 4);
        Due.due("price 0", x.price(0, 1), 4);
        Due.due("price 1", x.price(1, 1), 9);
        Due.due("price 2", x.price(2, 1), 6);
        Due.due("two houses and debts", Due.tell(x, HOUSE + "h005005137;d015;d1099;"), 4);
        Due.due("houses", x.count(0), 2);
        Due.due("coin of three digits", x.house(0, 9), 100);
        Due.due("coin of one digit", x.house(1, 9), 7);
        Due.due("house 0 is owed", x.owed(0), 94);
        Due.due("a debt twice, with 0 ahead", Due.tell(x, "d0107;d0108;"), 2);
        Due.due("house 0 is owed", x.owed(0), 91);
        Due.due("a debt of nothing", Due.tell(x, "d010;"), 1);
        Due.due("house 0 is owed", x.owed(0), 99);
        Due.due("a house more", Due.tell(x, "h0050051312;l0;"), 2);
        Due.due("coin of two digits", x.house(2, 9), 12);
        Due.due("houses", x.count(0), 3);
        Due.due("law is", x.count(2), 0);
        Due.due("coin with 0 ahead", Due.tell(x, "h00500513009;"), 1);
        Due.due("coin", x.house(3, 9), 9);
        Due.due("letters are no more", x.count(6), 0);
    }

    private static void fault(String letters, int want) {
        GoodsDownhill x = Due.with(HOUSE + HOUSE);
        Due.due("mountain \"" + letters + "\"", Due.tell(x, letters), want);
        Due.due("letters behind \"" + letters + "\"", x.count(6), 0);
    }

    private static void wrongLetters() {
        fault("", -1000);
        fault("x", -1000);
        fault(";", -1000);
        fault("5", -1000);
        fault("H", -1000);
        fault("h", -1001);
        fault("hx", -1001);
        fault("h;", -1001);
        fault("h/", -1001);
        fault("h:", -1001);
        fault("h00500513;", -1009);
        fault("h00500513", -1009);
        fault("h005005131", -1010);
        fault("h00500513123", -1012);
        fault("h005005131234;", -1012);
        fault("h0050051312x", -1011);
        fault("l", -1001);
        fault("l;", -1001);
        fault("l1", -1002);
        fault("l12;", -1002);
        fault("p1;", -1002);
        fault("p12", -1003);
        fault("p123;", -1003);
        fault("d01;", -1003);
        fault("d012", -1004);
        fault("d0123", -1005);
        fault("d01234;", -1005);
        fault("l1;;", -1003);
        fault("l1;x", -1003);
        fault("l1; ", -1003);
        fault("l1;l", -1004);
        fault("l9;x", -1003);
        fault("h90500513100;l9;p0", -1018);
    }

    private static void wrongStatements() {
        fault("l3;", -2000);
        fault("l1;l9;", -2003);
        fault("l1;p11;l3;p00;", -2007);
        fault("p31;", -2000);
        fault("p00;", -2000);
        fault("h60500513100;", -2000);
        fault("h90500513100;", -2000);
        fault("h00503513100;", -2000);
        fault("h00500533100;", -2000);
        fault("h00503010100;", -2000);
        fault(HOUSE + "h00500530100;", -2013);
        fault("d021;", -2000);
        fault("d201;", -2000);
        fault("d001;", -2000);
        fault("d115;", -2000);
        fault("d990;", -2000);
        fault("d021;" + HOUSE, -2000);
        fault(HOUSE + "d021;", 2);
        fault(HOUSE + "d031;", -2013);
    }

    private static void faultChangesNothing() {
        GoodsDownhill x = Due.with(HOUSE);
        Due.due("kind 2", Due.tell(x, HOUSE + "l2;p05;d0150;d009;"), -2026);
        Due.due("kind 1", Due.tell(x, HOUSE + "l2;p05;d0150;x"), -1026);
        Due.due("houses", x.count(0), 1);
        Due.due("coin", x.count(3), 100);
        Due.due("law", x.count(2), 0);
        Due.due("debts", x.count(5), 0);
        Due.due("price", x.price(0, 1), 1);
        for (int what = 11; what <= 16; what++) {
            Due.due("nothing is counted in " + what, x.count(what), 0);
        }
    }

    private static void roomForSixHouses() {
        GoodsDownhill x = Due.with(HOUSE + HOUSE + HOUSE + HOUSE);
        Due.due("a seventh house", Due.tell(x, HOUSE + HOUSE + HOUSE), -2026);
        Due.due("houses", x.count(0), 4);
        Due.due("two more", Due.tell(x, HOUSE + HOUSE), 2);
        Due.due("houses", x.count(0), 6);
        Due.due("a seventh house", Due.tell(x, "l1;" + HOUSE), -2003);
        Due.due("houses", x.count(0), 6);
        Due.due("law", x.count(2), 0);
    }

    private static void longestMountain() {
        GoodsDownhill x = new GoodsDownhill();
        Due.feed(x, HOUSE + HOUSE + HOUSE + HOUSE + HOUSE + HOUSE + "l1;l2;l1;l2;l1;l2;");
        Due.due("letters", x.count(6), 96);
        Due.due("mountain of 96 letters", x.mountain(), 12);
        Due.due("houses", x.count(0), 6);
        Due.due("law", x.count(2), 2);
        for (int n = 0; n < 31; n++) {
            Due.feed(x, "l1;");
        }
        Due.feed(x, "h12");
        Due.due("96 letters without an end", x.mountain(), -1096);
    }

    private static void look(GoodsDownhill x, int house, int... want) {
        for (int what = 0; what < want.length; what++) {
            Due.due("house(" + house + ", " + what + ")", x.house(house, what), want[what]);
        }
    }

    private static void houses() {
        GoodsDownhill x = Due.with(Due.house(0, 7, 50, "01", "12", 100) + Due.house(1, 3, 40, "13", "24", 20)
            + Due.house(2, 9, 30, "25", "06", 3) + Due.house(3, 4, 60, "07", "08", 999));
        Due.tell(x, Due.house(4, 2, 20, "19", "10", 0) + Due.house(5, 3, 10, "20", "29", 5));
        look(x, 0, 0, 7, 50, 50, 50, 0, 1, 1, 2, 100);
        look(x, 1, 1, 3, 40, 40, 37, 1, 3, 2, 4, 20);
        look(x, 2, 2, 9, 30, 39, 30, 2, 5, 0, 6, 3);
        look(x, 3, 3, 4, 60, 60, 999, 0, 7, 0, 8, 999);
        look(x, 4, 4, 2, 20, 22, 18, 1, 9, 1, 0, 0);
        look(x, 5, 5, 3, 10, 13, 4, 2, 0, 2, 9, 5);
        Due.due("no such house", x.house(6, 0), -1);
        Due.due("no such house", x.house(-1, 0), -1);
        Due.due("no such what", x.house(0, 10), -2);
        Due.due("no such what", x.house(0, -1), -2);
        Due.due("neither", x.house(6, 10), -1);
        GoodsDownhill low = Due.with(Due.house(5, 9, 0, "00", "00", 0) + Due.house(5, 9, 99, "00", "00", 0));
        look(low, 0, 5, 9, 0, 9, -18);
        look(low, 1, 5, 9, 99, 108, 81);
    }
}
