/** Promise 23, votes: 1 and 30 weeks, none, each and all houses, refusals and their order. */
public final class Promise23VotesTest {
    public static void main(String[] args) {
        nobody();
        asItIs();
        eachBit();
        allBits();
        moreNotAsMany();
        weeksCount();
        againAndAgain();
        asksAlone();
        noSuchLaw();
        below();
        above();
        otherIsToldFirst();
        Due.end("Promise23VotesTest");
    }

    private static void nobody() {
        for (int law = 0; law <= 2; law++) {
            Due.due("no houses", new GoodsDownhill().votes(law, 1), 0);
            Due.due("nobody wants anything", Edge.idle(6).votes(law, 30), 0);
        }
    }

    /** All are at one height: only by any law somebody sells. */
    private static GoodsDownhill alike(int wanting) {
        GoodsDownhill x = new GoodsDownhill();
        for (int h = 0; h < 6; h++) {
            boolean wants = (wanting >> h & 1) == 1;
            String makes = h == 0 ? "09" : "19";
            String what = h == 0 ? "1" : "0";
            Due.tell(x, Due.house(0, 0, 50, makes, what + (wants ? 1 : 0), 50));
        }
        return x;
    }

    /** The law that holds brings no more than it does. */
    private static void asItIs() {
        for (int law = 0; law <= 2; law++) {
            GoodsDownhill x = alike(63);
            x.law(law);
            Due.due("votes(" + law + ", 1)", x.votes(law, 1), 0);
            Due.due("votes(" + law + ", 30)", x.votes(law, 30), 0);
        }
    }

    private static void eachBit() {
        for (int h = 0; h < 6; h++) {
            Due.due("house " + h, alike(1 << h).votes(2, 1), 1 << h);
            Due.due("house " + h, alike(1 << h).votes(2, 30), 1 << h);
        }
    }

    private static void allBits() {
        Due.due("all", alike(63).votes(2, 1), 63);
        GoodsDownhill any = alike(63);
        any.law(2);
        Due.due("nobody is for less", any.votes(0, 30), 0);
        Due.due("nobody is for less", any.votes(1, 30), 0);
    }

    /** House 2 is served two a week from above, or from below so many. */
    private static GoodsDownhill fromBelow(int pieces) {
        return Due.with(Due.house(0, 0, 90, "02", "10", 0) + Due.house(0, 0, 10, "0" + pieces, "10", 0)
            + Due.house(0, 0, 50, "10", "09", 999));
    }

    private static void moreNotAsMany() {
        Due.due("less", fromBelow(1).votes(1, 30), 0);
        Due.due("as many", fromBelow(2).votes(1, 30), 0);
        Due.due("more", fromBelow(3).votes(1, 30), 4);
        Due.due("more in one week", fromBelow(3).votes(1, 1), 4);
    }

    /** House 2 has thirty coins: two a week from below or one a week from above, behind 30 weeks they are spent. */
    private static void weeksCount() {
        GoodsDownhill x = Due.with(Due.house(0, 0, 90, "01", "10", 0) + Due.house(0, 0, 10, "02", "10", 0)
            + Due.house(0, 0, 50, "10", "02", 30));
        Due.due("behind 1", x.votes(1, 1), 4);
        Due.due("behind 29", x.votes(1, 29), 4);
        Due.due("behind 30", x.votes(1, 30), 0);
    }

    /** What was asked for and done before has no part in it. */
    private static void againAndAgain() {
        for (int h = 0; h < 6; h++) {
            GoodsDownhill x = alike(1 << h);
            x.law(2);
            x.week();
            x.served(60, 0);
            Due.due("nobody is for less", x.votes(0, 30), 0);
            x.law(0);
            Due.due("house " + h, x.votes(2, 1), 1 << h);
            x.behind(h, 60);
            Due.due("house " + h + " again", x.votes(2, 1), 1 << h);
            Due.due("nobody, as it is", x.votes(0, 1), 0);
        }
    }

    private static void asksAlone() {
        for (int law = 0; law <= 2; law++) {
            int asked = law;
            Edge.asked("votes(" + law + ", 30)", Edge.busy().votes(law, 30), Edge::busy, x -> x.votes(asked, 30));
            Edge.asked("votes(" + law + ", 1)", Edge.busy().votes(law, 1), Edge::busy, x -> x.votes(asked, 1));
        }
    }

    private static void noSuchLaw() {
        for (int law : Edge.NO_LAW) {
            Edge.refused("votes(" + law + ", 1)", -2, x -> x.votes(law, 1));
            Edge.refused("votes(" + law + ", 30)", -2, x -> x.votes(law, 30));
        }
    }

    private static void below() {
        int[] weeks = {0, -1, Edge.LEAST};
        for (int n : weeks) {
            for (int law = 0; law <= 2; law++) {
                int asked = law;
                Edge.refused("votes(" + law + ", " + n + ")", -4, x -> x.votes(asked, n));
            }
        }
    }

    private static void above() {
        int[] weeks = {31, 60, Edge.GREATEST};
        for (int n : weeks) {
            for (int law = 0; law <= 2; law++) {
                int asked = law;
                Edge.refused("votes(" + law + ", " + n + ")", -6, x -> x.votes(asked, n));
            }
        }
    }

    private static void otherIsToldFirst() {
        Edge.refused("votes(3, 0)", -2, x -> x.votes(3, 0));
        Edge.refused("votes(-1, 31)", -2, x -> x.votes(-1, 31));
    }
}
