/** Promise 27, image: of nothing, of all, a later one instead, and that taking it changes nothing else. */
public final class Promise27ImageTest {
    public static void main(String[] args) {
        ofNothing();
        answersWeek();
        aLaterOneInstead();
        changesNothingElse();
        holdsNoLettersRowRefusals();
        Due.end("Promise27ImageTest");
    }

    private static void ofNothing() {
        GoodsDownhill x = new GoodsDownhill();
        Due.due("image()", x.image(), 0);
        Due.tell(x, Due.house(0, 0, 50, "09", "10", 9) + "l2;p09;");
        x.week();
        Due.due("restore()", x.restore(), 0);
        Due.due("houses", x.count(0), 0);
        Due.due("WEEK", x.count(1), 0);
        Due.due("law", x.count(2), 0);
        Due.due("coin", x.count(3), 0);
        Due.due("stores", x.count(4), 0);
        Due.due("price", x.price(0, 1), 1);
    }

    private static void answersWeek() {
        GoodsDownhill x = Edge.idle(1);
        for (int w = 0; w <= 60; w++) {
            Due.due("image()", x.image(), w);
            x.week();
        }
    }

    private static void aLaterOneInstead() {
        GoodsDownhill x = Edge.idle(2);
        x.image();
        x.week();
        x.law(1);
        Due.due("image()", x.image(), 1);
        x.week();
        x.law(2);
        Due.due("restore()", x.restore(), 1);
        Due.due("law", x.count(2), 1);
        Due.due("image()", x.image(), 1);
    }

    /** Beside an object of which no image is taken all is alike; so the images of both are taken at last. */
    private static void changesNothingElse() {
        GoodsDownhill x = Edge.busy();
        GoodsDownhill twin = Edge.busy();
        Due.due("image()", x.image(), 2);
        twin.week();
        x.week();
        x.image();
        twin.image();
        Edge.noMoreRefusals("image()", x, twin);
        Edge.same("behind an image", x, twin);
    }

    private static void holdsNoLettersRowRefusals() {
        GoodsDownhill x = Edge.idle(2);
        Due.feed(x, "l1;");
        x.row(10);
        x.house(9, 0);
        x.image();
        Due.due("mountain", x.mountain(), 1);
        x.judge();
        x.house(9, 0);
        x.restore();
        Due.due("law", x.count(2), 0);
        Due.due("letters", x.count(6), 0);
        Due.due("in the row", x.count(7), 0);
        Due.due("refusals", x.count(11), 2);
    }
}
