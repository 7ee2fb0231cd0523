/** Promise 7, law: the first and the last law, refusals. */
public final class Promise07LawTest {
    public static void main(String[] args) {
        fromDownToAny();
        noSuchLaw();
        Due.end("Promise07LawTest");
    }

    private static void fromDownToAny() {
        GoodsDownhill x = new GoodsDownhill();
        Due.due("law(0)", x.law(0), 0);
        Due.due("law(1)", x.law(1), 0);
        Due.due("law(2)", x.law(2), 1);
        Due.due("law(2)", x.law(2), 2);
        Due.due("law is", x.count(2), 2);
        Due.due("law(0)", x.law(0), 2);
        Due.due("law is", x.count(2), 0);
        Due.due("no refusals", x.count(12), 0);
    }

    private static void noSuchLaw() {
        for (int law : Edge.NO_LAW) {
            for (int now = 0; now <= 2; now++) {
                int held = now;
                Edge.refused("law(" + law + ")", -2, () -> busyBy(held), x -> x.law(law));
            }
        }
    }

    private static GoodsDownhill busyBy(int law) {
        GoodsDownhill x = Edge.busy();
        x.law(law);
        return x;
    }
}
