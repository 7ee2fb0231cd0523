/** Promise 3, mountain: each letter of each statement, each number's range, room, and that a fault brings nothing. */
public final class Promise03MountainTest {
    private static final String HOUSE = "h00500513100;";
    private static final String SHORT_HOUSE = "h0050000000;";

    public static void main(String[] args) {
        noLetters();
        somethingLacks();
        endsTooSoon();
        wrongLetters();
        wrongHeads();
        howManyDigits();
        lettersBehindAStatement();
        lastPlaces();
        kinds();
        figuresAndHeights();
        goodsAndHowMany();
        coin();
        prices();
        laws();
        debts();
        housesOfADebt();
        roomForSixHouses();
        firstOfSeveralFaults();
        wrongLetterAheadOfWrongStatement();
        allOfItComes();
        toldTwice();
        Due.end("Promise03MountainTest");
    }

    private static GoodsDownhill two() {
        GoodsDownhill x = Due.with(HOUSE + HOUSE + "d0150;p05;");
        x.image();
        x.week();
        x.row(10);
        return x;
    }

    /** A fault brings nothing and counts nothing, and the letters are no more. */
    private static void fault(String letters, int want) {
        Edge.asked("mountain \"" + letters + "\"", want, Promise03MountainTest::two, x -> Due.tell(x, letters));
    }

    private static GoodsDownhill good(String letters, int statements) {
        GoodsDownhill x = two();
        Due.due("mountain \"" + letters + "\"", Due.tell(x, letters), statements);
        Due.due("letters are no more", x.count(6), 0);
        return x;
    }

    private static void noLetters() {
        fault("", -1000);
        GoodsDownhill x = two();
        Due.tell(x, "l1;");
        Due.due("no letters behind a mountain", x.mountain(), -1000);
        Due.due("law", x.count(2), 1);
    }

    /** Each statement is cut off behind each of its letters: the fault is at the end. */
    private static void somethingLacks() {
        String[] statements = {HOUSE, "h005005131;", "p12;", "l1;", "d0199;", "d011;"};
        for (String statement : statements) {
            for (int n = 1; n < statement.length(); n++) {
                fault(statement.substring(0, n), -1000 - n);
                fault("l1;" + statement.substring(0, n), -1003 - n);
            }
        }
    }

    /** A ";" where a digit must be: those behind which nothing more is needed are no fault. */
    private static void endsTooSoon() {
        String[] statements = {"h00500513", "p1", "l", "d01"};
        for (String statement : statements) {
            for (int n = 1; n <= statement.length(); n++) {
                String told = statement.substring(0, n) + ";";
                fault(told, -1000 - n);
                fault("l1;" + told, -1003 - n);
                fault("l1;p11;" + told, -1007 - n);
            }
        }
        good("l1;h005005130;p11;l1;d010;", 5);
    }

    /** The signs next to the digits, the least and the greatest one, and a head where a digit must be. */
    private static void wrongLetters() {
        int[] wrong = {0, '/', ':', 255, 'h', ' ', '0' + 128};
        String[] statements = {HOUSE, "p12;", "l1;", "d0199;"};
        for (String statement : statements) {
            for (int place = 1; place < statement.length(); place++) {
                for (int sign : wrong) {
                    fault(withSign(statement, place, sign), -1000 - place);
                }
            }
        }
    }

    private static String withSign(String statement, int place, int sign) {
        return statement.substring(0, place) + (char) sign + statement.substring(place + 1);
    }

    private static void wrongHeads() {
        int[] wrong = {0, 'c', 'e', 'g', 'i', 'k', 'm', 'o', 'q', 'H', 'P', 'L', 'D', ';', '0', '9', ' ', 255};
        for (int head : wrong) {
            fault((char) head + "01;", -1000);
            fault("l1;" + (char) head, -1003);
        }
    }

    private static void howManyDigits() {
        fault("h00500513;", -1009);
        good("h005005130;", 1);
        good("h00500513000;", 1);
        fault("h005005130000;", -1012);
        fault("p1;", -1002);
        fault("p110;", -1003);
        fault("l;", -1001);
        fault("l10;", -1002);
        fault("d01;", -1003);
        good("d010;", 1);
        good("d0100;", 1);
        fault("d01000;", -1005);
    }

    private static void lettersBehindAStatement() {
        fault("l1;;", -1003);
        fault("l1;\n", -1003);
        fault("l1;0", -1003);
        fault(";l1;", -1000);
        fault(" l1;", -1000);
    }

    private static void lastPlaces() {
        good("l1;".repeat(32), 32);
        fault("l1;".repeat(31) + "l1x", -1095);
        fault("l1;".repeat(31) + "h12", -1096);
        fault("l1;".repeat(31) + "p12", -1096);
        fault("l1;".repeat(31) + "l3;", -2093);
        GoodsDownhill x = two();
        Due.feed(x, "l1;".repeat(32));
        Due.due("the 97th letter", x.feed('x'), -6);
        Due.due("is no part of the mountain", x.mountain(), 32);
    }

    private static void kinds() {
        for (int kind = 0; kind <= 5; kind++) {
            GoodsDownhill x = good("h" + kind + "0500513100;", 1);
            Due.due("kind", x.house(2, 0), kind);
        }
        for (int kind = 6; kind <= 9; kind++) {
            fault("h" + kind + "0500513100;", -2000);
        }
    }

    private static void figuresAndHeights() {
        for (int figure = 0; figure <= 9; figure++) {
            Due.due("figure", good("h0" + figure + "500513100;", 1).house(2, 1), figure);
        }
        Due.due("height 00", good("h00000513100;", 1).house(2, 2), 0);
        Due.due("height 01", good("h00010513100;", 1).house(2, 2), 1);
        Due.due("height 10", good("h00100513100;", 1).house(2, 2), 10);
        Due.due("height 99", good("h00990513100;", 1).house(2, 2), 99);
    }

    private static void goodsAndHowMany() {
        for (int g = 0; g <= 9; g++) {
            String makes = "h0050" + g + "513100;";
            String wants = "h005005" + g + "3100;";
            if (g <= 2) {
                Due.due("the good it makes", good(makes, 1).house(2, 5), g);
                Due.due("the good it wants", good(wants, 1).house(2, 7), g);
            } else {
                fault(makes, -2000);
                fault(wants, -2000);
            }
            Due.due("how many it makes", good("h00500" + g + "13100;", 1).house(2, 6), g);
            Due.due("how many it wants", good("h0050051" + g + "100;", 1).house(2, 8), g);
        }
        fault("h00503000;", -1009);
        fault("h00503010100;", -2000);
        fault("h00500030100;", -2000);
    }

    private static void coin() {
        String[] told = {"0", "9", "00", "09", "10", "99", "000", "009", "099", "100", "999"};
        for (String coin : told) {
            Due.due("coin \"" + coin + "\"", good("h00500513" + coin + ";", 1).house(2, 9), Integer.parseInt(coin));
        }
        fault("h00500513;", -1009);
        fault("h005005131000;", -1012);
    }

    private static void prices() {
        for (int price = 1; price <= 9; price++) {
            Due.due("price", good("p0" + price + ";", 1).price(0, 1), price);
            Due.due("price", good("p2" + price + ";", 1).price(2, 1), price);
        }
        for (int g = 0; g <= 9; g++) {
            fault("p" + g + "0;", -2000);
            if (g > 2) {
                fault("p" + g + "1;", -2000);
                fault("p" + g + "9;", -2000);
            }
        }
    }

    private static void laws() {
        for (int law = 0; law <= 9; law++) {
            if (law <= 2) {
                Due.due("law", good("l" + law + ";", 1).count(2), law);
            } else {
                fault("l" + law + ";", -2000);
            }
        }
    }

    private static void debts() {
        String[] told = {"0", "00", "1", "01", "9", "09", "10", "99"};
        for (String debt : told) {
            Due.due("debt \"" + debt + "\"", good("d01" + debt + ";", 1).owe(0, 1, 0), Integer.parseInt(debt));
            Due.due("debt \"" + debt + "\"", good("d10" + debt + ";", 1).owe(1, 0, 0), Integer.parseInt(debt));
        }
        fault("d01;", -1003);
        fault("d01100;", -1005);
    }

    private static void housesOfADebt() {
        for (int h = 0; h <= 9; h++) {
            fault("d" + h + h + "1;", -2000);
            if (h >= 2) {
                fault("d0" + h + "1;", -2000);
                fault("d" + h + "01;", -2000);
            }
        }
        good(HOUSE + "d021;", 2);
        good(HOUSE + "d201;", 2);
        fault("d021;" + HOUSE, -2000);
        fault(HOUSE + "d031;", -2013);
        fault(HOUSE + "d221;", -2013);
        Due.due("a debt without houses", Due.tell(new GoodsDownhill(), "d011;"), -2000);
    }

    private static void roomForSixHouses() {
        GoodsDownhill six = Edge.idle(0);
        Due.due("six in one mountain", Due.tell(six, SHORT_HOUSE.repeat(6)), 6);
        Due.due("houses", six.count(0), 6);
        Due.due("a seventh", Due.tell(six, SHORT_HOUSE), -2000);
        Due.due("a seventh", Due.tell(six, "p01;" + SHORT_HOUSE), -2004);
        Due.due("houses", six.count(0), 6);
        Due.due("what needs no room comes still", Due.tell(six, "d459;l2;"), 2);
        GoodsDownhill x = new GoodsDownhill();
        Due.due("seven in one mountain", Due.tell(x, SHORT_HOUSE.repeat(7)), -2072);
        Due.due("houses", x.count(0), 0);
        Edge.asked("a sixth and a seventh", -2012, () -> Edge.idle(5), y -> Due.tell(y, SHORT_HOUSE.repeat(2)));
    }

    private static void firstOfSeveralFaults() {
        fault("l3;l3;", -2000);
        fault("l1;l3;p00;", -2003);
        fault("l1;p00;l3;", -2003);
        fault("l1x;x", -1002);
    }

    private static void wrongLetterAheadOfWrongStatement() {
        fault("l3;x", -1003);
        fault("l3;l", -1004);
        fault("p00;d991;h", -1010);
    }

    private static void allOfItComes() {
        GoodsDownhill x = good("l2;p29;" + SHORT_HOUSE + "d0299;d207;", 5);
        Due.due("law", x.count(2), 2);
        Due.due("price", x.price(2, 1), 9);
        Due.due("houses", x.count(0), 3);
        Due.due("debts", x.count(5), 50 + 99 + 7);
        fault("l2;p29;" + SHORT_HOUSE + "d0299;d207;d007;", -2030);
        fault("l2;p29;" + SHORT_HOUSE + "d0299;d207;d", -1031);
    }

    /** The document calls nothing of this a fault: what comes later holds. */
    private static void toldTwice() {
        Due.due("price", good("p02;p03;", 2).price(0, 1), 3);
        Due.due("law", good("l1;l2;", 2).count(2), 2);
        Due.due("debt", good("d015;d016;", 2).owe(0, 1, 0), 6);
    }
}
