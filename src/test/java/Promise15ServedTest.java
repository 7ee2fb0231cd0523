/** Promise 15, served: 0 and 60 weeks, lacks of the last week alone, refusals and their order. */
public final class Promise15ServedTest {
    public static void main(String[] args) {
        noWeeks();
        sixtyWeeks();
        lacksOfTheLastWeek();
        noWeeksBehindSome();
        lacksArePieces();
        whoWantsNoneLacksNone();
        asWeeksWouldBring();
        inMindAlone();
        noSuchWhat();
        below();
        above();
        otherIsToldFirst();
        Due.end("Promise15ServedTest");
    }

    /** House 1 wants two pieces a week, for one coin each. */
    private static GoodsDownhill buyer(int coin) {
        return Due.with(Due.house(0, 0, 50, "02", "10", 0) + Due.house(0, 0, 40, "10", "02", coin));
    }

    private static void noWeeks() {
        Due.due("served(0, 0)", buyer(0).served(0, 0), 0);
        Due.due("lacks of no week", buyer(0).served(0, 1), 0);
        Due.due("lacks of one week", buyer(0).served(1, 1), 2);
        Due.due("served(0, 0) without houses", new GoodsDownhill().served(0, 0), 0);
        Due.due("served(0, 1) without houses", new GoodsDownhill().served(0, 1), 0);
    }

    private static void sixtyWeeks() {
        Due.due("served(60, 0)", buyer(120).served(60, 0), 120);
        Due.due("served(60, 1)", buyer(120).served(60, 1), 0);
        Due.due("served(60, 0)", buyer(119).served(60, 0), 119);
        Due.due("served(60, 1)", buyer(119).served(60, 1), 1);
        Due.due("served(60, 0)", buyer(118).served(60, 0), 118);
        Due.due("served(60, 1)", buyer(118).served(60, 1), 2);
        GoodsDownhill all = Edge.idle(0);
        Due.tell(all, Due.house(0, 0, 0, "29", "29", 0).repeat(6));
        Due.due("six houses by themselves", all.served(60, 0), 60 * 6 * 9);
        Due.due("they lack nothing", all.served(60, 1), 0);
    }

    private static void lacksOfTheLastWeek() {
        GoodsDownhill x = buyer(3);
        int[] served = {0, 2, 3, 3, 3};
        int[] lacks = {0, 0, 1, 2, 2};
        for (int n = 0; n < served.length; n++) {
            Due.due("served(" + n + ", 0)", x.served(n, 0), served[n]);
            Due.due("served(" + n + ", 1)", x.served(n, 1), lacks[n]);
        }
    }

    /** What was asked for before has no part in it. */
    private static void noWeeksBehindSome() {
        GoodsDownhill x = buyer(3);
        Due.due("served(60, 1)", x.served(60, 1), 2);
        Due.due("served(0, 1)", x.served(0, 1), 0);
        Due.due("served(60, 0)", x.served(60, 0), 3);
        Due.due("served(0, 0)", x.served(0, 0), 0);
        Due.due("served(2, 1)", x.served(2, 1), 1);
    }

    private static void lacksArePieces() {
        GoodsDownhill x = Edge.idle(0);
        Due.tell(x, Due.house(0, 0, 0, "00", "19", 0).repeat(6));
        Due.due("all wants of six", x.served(1, 1), 54);
        Due.due("of one week alone", x.served(60, 1), 54);
    }

    private static void whoWantsNoneLacksNone() {
        Due.due("lacks", Edge.idle(6).served(60, 1), 0);
    }

    private static void asWeeksWouldBring() {
        GoodsDownhill x = Edge.rested();
        GoodsDownhill twin = Edge.rested();
        int served = 0;
        for (int n = 0; n <= 60; n++) {
            Due.due("served(" + n + ", 0)", x.served(n, 0), served);
            served += twin.week();
        }
    }

    private static void inMindAlone() {
        for (int what = 0; what <= 1; what++) {
            int asked = what;
            Edge.asked("served(60, " + what + ")", Edge.busy().served(60, what), Edge::busy, x -> x.served(60, asked));
        }
    }

    private static void noSuchWhat() {
        for (int what : Edge.NO_WHAT_OF_TWO) {
            Edge.refused("served(0, " + what + ")", -2, x -> x.served(0, what));
            Edge.refused("served(60, " + what + ")", -2, x -> x.served(60, what));
        }
    }

    private static void below() {
        for (int what = 0; what <= 1; what++) {
            int asked = what;
            Edge.refused("served(-1, " + what + ")", -4, x -> x.served(-1, asked));
            Edge.refused("served(least, " + what + ")", -4, x -> x.served(Edge.LEAST, asked));
        }
    }

    private static void above() {
        for (int what = 0; what <= 1; what++) {
            int asked = what;
            Edge.refused("served(61, " + what + ")", -6, x -> x.served(61, asked));
            Edge.refused("served(greatest, " + what + ")", -6, x -> x.served(Edge.GREATEST, asked));
        }
    }

    private static void otherIsToldFirst() {
        Edge.refused("served(-1, 2)", -2, x -> x.served(-1, 2));
        Edge.refused("served(61, -1)", -2, x -> x.served(61, -1));
    }
}
