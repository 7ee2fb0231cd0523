import java.util.ArrayDeque;
import java.util.ArrayList;
import java.util.Deque;
import java.util.List;
import java.util.regex.Matcher;
import java.util.regex.Pattern;

/**
 * The document told a second time, by other ways than the class goes (grammar by a regular expression, rings
 * looked for anew behind each one, flow piece by piece, paths as lists), to hold the class's answers against.
 */
final class Model {
    private static final Pattern GRAMMAR = Pattern.compile("(h[0-9]{9,11};|p[0-9]{2};|l[0-9];|d[0-9]{3,4};)+");
    private static final int FAR = 1000000000;

    private static final class Home {
        int kind, figure, height, makesGood, makes, wantsGood, wants, coin;
        int[] store = new int[3];

        Home copy() {
            Home c = new Home();
            c.kind = kind;
            c.figure = figure;
            c.height = height;
            c.makesGood = makesGood;
            c.makes = makes;
            c.wantsGood = wantsGood;
            c.wants = wants;
            c.coin = coin;
            c.store = store.clone();
            return c;
        }

        int sells() {
            return kind == 2 || kind == 4 || kind == 5 ? height + figure : height;
        }

        int buys() {
            int[] less = {0, figure, 0, 0, figure, figure + figure};
            return kind == 3 ? 999 : height - less[kind];
        }

        int wanted(int good) {
            return good == wantsGood ? wants : 0;
        }
    }

    private static final class World {
        List<Home> homes = new ArrayList<>();
        int[] price = {1, 1, 1};
        int[][] debt = new int[6][6];
        int law, week, nextMule;
        // of the last week
        int lacks, coinMoved;
        int[] served = new int[6];

        World copy() {
            World c = new World();
            for (Home h : homes) {
                c.homes.add(h.copy());
            }
            c.price = price.clone();
            for (int i = 0; i < 6; i++) {
                c.debt[i] = debt[i].clone();
            }
            c.law = law;
            c.week = week;
            c.nextMule = nextMule;
            return c;
        }

        boolean is(int h) {
            return h >= 0 && h < homes.size();
        }

        boolean lawful(int a, int b) {
            int difference = homes.get(b).buys() - homes.get(a).sells();
            return a != b && (law == 2 || (law == 0 ? difference < 0 : difference > 0));
        }

        boolean canSell(int a, int b, int good) {
            if (!is(a) || !is(b) || a == b || good < 0 || good > 2) {
                return false;
            }
            Home from = homes.get(a);
            Home to = homes.get(b);
            return lawful(a, b) && from.store[good] >= 1 && to.coin >= price[good] && to.store[good] + 1 <= 99
                && from.coin + price[good] <= 9999;
        }

        boolean sell(int a, int b, int good) {
            if (!canSell(a, b, good)) {
                return false;
            }
            homes.get(a).store[good]--;
            homes.get(b).store[good]++;
            homes.get(a).coin += price[good];
            homes.get(b).coin -= price[good];
            coinMoved += price[good];
            return true;
        }

        int pass() {
            coinMoved = 0;
            lacks = 0;
            for (Home h : homes) {
                for (int i = 0; i < h.makes; i++) {
                    if (h.store[h.makesGood] < 99) {
                        h.store[h.makesGood]++;
                    }
                }
            }
            for (int b = 0; b < homes.size(); b++) {
                Home buyer = homes.get(b);
                int good = buyer.wantsGood;
                while (buyer.store[good] < buyer.wants) {
                    int best = -1;
                    for (int a = homes.size() - 1; a >= 0; a--) {
                        boolean may = canSell(a, b, good) && homes.get(a).wanted(good) == 0;
                        if (may && (best == -1 || homes.get(a).store[good] >= homes.get(best).store[good])) {
                            best = a;
                        }
                    }
                    if (best == -1) {
                        break;
                    }
                    sell(best, b, good);
                }
            }
            int all = 0;
            for (int i = 0; i < homes.size(); i++) {
                Home h = homes.get(i);
                for (int piece = 0; piece < h.wants; piece++) {
                    if (h.store[h.wantsGood] > 0) {
                        h.store[h.wantsGood]--;
                        served[i]++;
                        all++;
                    } else {
                        lacks++;
                    }
                }
            }
            week++;
            return all;
        }

        /** The first ring there is, as a list of houses; null: none. */
        private int[] firstRing() {
            for (int length = 2; length <= 3; length++) {
                for (int code = 0; code < 216; code++) {
                    int[] ring = length == 2 ? new int[] {code / 36, code / 6 % 6}
                        : new int[] {code / 36, code / 6 % 6, code % 6};
                    if (isRing(ring)) {
                        return ring;
                    }
                }
            }
            return null;
        }

        private boolean isRing(int[] ring) {
            for (int i = 0; i < ring.length; i++) {
                for (int j = i + 1; j < ring.length; j++) {
                    if (ring[i] == ring[j]) {
                        return false;
                    }
                }
                if (ring[i] < ring[0] || debt[ring[i]][ring[(i + 1) % ring.length]] == 0) {
                    return false;
                }
            }
            return true;
        }

        int strike() {
            int struck = 0;
            for (int[] ring = firstRing(); ring != null; ring = firstRing()) {
                int least = 99;
                for (int i = 0; i < ring.length; i++) {
                    least = Math.min(least, debt[ring[i]][ring[(i + 1) % ring.length]]);
                }
                for (int i = 0; i < ring.length; i++) {
                    debt[ring[i]][ring[(i + 1) % ring.length]] -= least;
                }
                struck++;
            }
            return struck;
        }

        int debts() {
            int sum = 0;
            for (int[] of : debt) {
                for (int one : of) {
                    sum += one;
                }
            }
            return sum;
        }

        /** Piece by piece along paths on which more can go; node n is the source, n + 1 the end. */
        int most(int good) {
            int n = homes.size();
            int[][] room = new int[n + 2][n + 2];
            for (int a = 0; a < n; a++) {
                if (homes.get(a).wanted(good) > 0) {
                    room[a][n + 1] = homes.get(a).wants;
                    continue;
                }
                room[n][a] = homes.get(a).store[good];
                for (int b = 0; b < n; b++) {
                    room[a][b] = homes.get(b).wanted(good) > 0 && lawful(a, b) ? 1000 : 0;
                }
            }
            int flow = 0;
            while (push(room, n, n + 1, new boolean[n + 2])) {
                flow++;
            }
            return flow;
        }

        private static boolean push(int[][] room, int at, int end, boolean[] seen) {
            if (at == end) {
                return true;
            }
            seen[at] = true;
            for (int next = 0; next < room.length; next++) {
                if (!seen[next] && room[at][next] > 0 && push(room, next, end, seen)) {
                    room[at][next]--;
                    room[next][at]++;
                    return true;
                }
            }
            return false;
        }
    }

    private World world = new World();
    private World imageOf = null;
    private final StringBuilder letters = new StringBuilder();
    private final List<Integer> told = new ArrayList<>();
    private final int[] refusals = new int[17];

    private int no(int number) {
        refusals[10 - number]++;
        return number;
    }

    private boolean two(int a, int b) {
        return world.is(a) && world.is(b) && a != b;
    }

    private static boolean good(int g) {
        return g == 0 || g == 1 || g == 2;
    }

    int feed(int letter) {
        if (letter < 0) {
            return no(-4);
        }
        if (letter > 255 || letters.length() == 96) {
            return no(-6);
        }
        letters.append((char) letter);
        return letters.length();
    }

    int mountain() {
        String text = letters.toString();
        letters.setLength(0);
        for (int i = 0; i < text.length(); i++) {
            Matcher m = GRAMMAR.matcher(text.substring(0, i + 1));
            if (!m.matches() && !m.hitEnd()) {
                return -1000 - i;
            }
        }
        if (!GRAMMAR.matcher(text).matches()) {
            return -1000 - text.length();
        }
        World trial = world.copy();
        int place = 0;
        int count = 0;
        for (String statement : text.split(";")) {
            if (!take(trial, statement)) {
                return -2000 - place;
            }
            place += statement.length() + 1;
            count++;
        }
        world = trial;
        return count;
    }

    private static boolean take(World w, String s) {
        int[] digit = s.substring(1).chars().map(c -> c - '0').toArray();
        switch (s.charAt(0)) {
            case 'h':
                if (digit[0] > 5 || !good(digit[4]) || !good(digit[6]) || w.homes.size() == 6) {
                    return false;
                }
                Home h = new Home();
                h.kind = digit[0];
                h.figure = digit[1];
                h.height = Integer.parseInt(s.substring(3, 5));
                h.makesGood = digit[4];
                h.makes = digit[5];
                h.wantsGood = digit[6];
                h.wants = digit[7];
                h.coin = Integer.parseInt(s.substring(9));
                w.homes.add(h);
                return true;
            case 'p':
                if (!good(digit[0]) || digit[1] == 0) {
                    return false;
                }
                w.price[digit[0]] = digit[1];
                return true;
            case 'l':
                w.law = digit[0];
                return digit[0] <= 2;
            default:
                if (!w.is(digit[0]) || !w.is(digit[1]) || digit[0] == digit[1]) {
                    return false;
                }
                w.debt[digit[0]][digit[1]] = Integer.parseInt(s.substring(3));
                return true;
        }
    }

    int house(int house, int what) {
        if (!world.is(house)) {
            return no(-1);
        }
        if (what < 0 || what > 9) {
            return no(-2);
        }
        Home h = world.homes.get(house);
        int[] all = {h.kind, h.figure, h.height, h.sells(), h.buys(), h.makesGood, h.makes, h.wantsGood, h.wants, h.coin};
        return all[what];
    }

    int store(int house, int good) {
        return world.is(house) && good(good) ? world.homes.get(house).store[good] : no(-1);
    }

    int price(int good, int v) {
        if (!good(good)) {
            return no(-1);
        }
        if (v < 1 || v > 9) {
            return no(v < 1 ? -4 : -6);
        }
        int was = world.price[good];
        world.price[good] = v;
        return was;
    }

    int law(int v) {
        if (v < 0 || v > 2) {
            return no(-2);
        }
        int was = world.law;
        world.law = v;
        return was;
    }

    int lawful(int a, int b) {
        return !two(a, b) ? no(-1) : world.lawful(a, b) ? 1 : 0;
    }

    int sale(int a, int b, int good) {
        if (!two(a, b) || !good(good)) {
            return no(-1);
        }
        return world.sell(a, b, good) ? world.homes.get(b).coin : no(-3);
    }

    int week() {
        return world.week == 9999 ? no(-6) : world.pass();
    }

    int mule(int a, int b, int coin) {
        if (!two(a, b)) {
            return no(-1);
        }
        if (coin < 1) {
            return no(-4);
        }
        if (world.week < world.nextMule) {
            return no(-3);
        }
        if (world.homes.get(a).coin < coin || (long) world.homes.get(b).coin + coin > 9999) {
            return no(-6);
        }
        world.homes.get(a).coin -= coin;
        world.homes.get(b).coin += coin;
        world.nextMule = world.week + 52;
        return world.nextMule;
    }

    int owe(int a, int b, int v) {
        if (!two(a, b)) {
            return no(-1);
        }
        if (v < 0 || v > 99) {
            return no(v < 0 ? -4 : -6);
        }
        int was = world.debt[a][b];
        world.debt[a][b] = v;
        return was;
    }

    int strike() {
        return world.strike();
    }

    int behind(int house, int n) {
        if (!world.is(house)) {
            return no(-1);
        }
        if (n < 0 || n > 60) {
            return no(n < 0 ? -4 : -6);
        }
        World w = world.copy();
        for (int i = 0; i < n; i++) {
            w.pass();
        }
        return w.homes.get(house).coin;
    }

    int served(int n, int what) {
        if (what != 0 && what != 1) {
            return no(-2);
        }
        if (n < 0 || n > 60) {
            return no(n < 0 ? -4 : -6);
        }
        World w = world.copy();
        int all = 0;
        for (int i = 0; i < n; i++) {
            all += w.pass();
        }
        return what == 0 ? all : w.lacks;
    }

    int drift(int what) {
        if (what != 0 && what != 1) {
            return no(-2);
        }
        if (world.homes.isEmpty()) {
            return no(-3);
        }
        World w = world.copy();
        for (int n = 0; n <= 100; n++) {
            World next = w.copy();
            next.pass();
            if (next.coinMoved == 0) {
                int best = w.homes.size() - 1;
                for (int h = best; h >= 0; h--) {
                    best = w.homes.get(h).coin >= w.homes.get(best).coin ? h : best;
                }
                return what == 0 ? n : best;
            }
            w = next;
        }
        return -9;
    }

    int stuck() {
        int pieces = 0;
        for (int a = 0; a < world.homes.size(); a++) {
            for (int g = 0; g < 3; g++) {
                boolean free = world.homes.get(a).wanted(g) > 0;
                for (int b = 0; b < world.homes.size(); b++) {
                    free |= world.homes.get(b).wanted(g) > 0 && world.lawful(a, b);
                }
                pieces += free ? 0 : world.homes.get(a).store[g];
            }
        }
        return pieces;
    }

    int most(int good) {
        return good(good) ? world.most(good) : no(-1);
    }

    int cellar(int house, int good, int figure) {
        if (!world.is(house) || !good(good)) {
            return FAR - no(-1);
        }
        if (figure < 0 || figure > 9) {
            return FAR - no(figure < 0 ? -4 : -6);
        }
        World w = world.copy();
        w.homes.get(house).kind = 1;
        w.homes.get(house).figure = figure;
        return w.most(good) - world.most(good);
    }

    int paths(int a, int b, int what) {
        if (!two(a, b)) {
            return no(-1);
        }
        if (what != 0 && what != 1) {
            return no(-2);
        }
        Deque<List<Integer>> open = new ArrayDeque<>();
        open.add(List.of(a));
        int ways = 0;
        int fewest = -9;
        while (!open.isEmpty()) {
            List<Integer> path = open.remove();
            int last = path.get(path.size() - 1);
            if (last == b) {
                ways++;
                fewest = fewest == -9 ? path.size() - 1 : fewest;
                continue;
            }
            for (int next = 0; next < world.homes.size(); next++) {
                if (!path.contains(next) && world.lawful(last, next)) {
                    List<Integer> longer = new ArrayList<>(path);
                    longer.add(next);
                    open.add(longer);
                }
            }
        }
        return what == 0 ? ways : fewest;
    }

    int owed(int house) {
        if (!world.is(house)) {
            return FAR - no(-1);
        }
        int sum = 0;
        for (int i = 0; i < 6; i++) {
            sum += world.debt[i][house];
            sum -= world.debt[house][i];
        }
        return sum;
    }

    int rings(int what) {
        if (what != 0 && what != 1) {
            return no(-2);
        }
        World w = world.copy();
        int struck = w.strike();
        return what == 0 ? struck : world.debts() - w.debts();
    }

    int votes(int law, int n) {
        if (law < 0 || law > 2) {
            return no(-2);
        }
        if (n < 1 || n > 30) {
            return no(n < 1 ? -4 : -6);
        }
        World asIs = world.copy();
        World other = world.copy();
        other.law = law;
        for (int i = 0; i < n; i++) {
            asIs.pass();
            other.pass();
        }
        int bits = 0;
        for (int h = 0; h < 6; h++) {
            bits += other.served[h] > asIs.served[h] ? 1 << h : 0;
        }
        return bits;
    }

    int row(int sale) {
        if (sale < 0) {
            return no(-4);
        }
        if (sale > 999 || told.size() == 8) {
            return no(-6);
        }
        told.add(sale);
        return told.size();
    }

    int judge() {
        World w = world.copy();
        int answer = -9;
        for (int i = told.size() - 1; i >= 0; i--) {
            World before = w.copy();
            boolean all = true;
            for (int j = 0; j <= i; j++) {
                all &= before.sell(told.get(j) / 100, told.get(j) / 10 % 10, told.get(j) % 10);
            }
            answer = all ? answer : i;
        }
        told.clear();
        return answer;
    }

    int seeds(int n, int z) {
        if (n < 1 || n > 60) {
            return no(n < 1 ? -4 : -6);
        }
        if (world.homes.isEmpty()) {
            return no(-3);
        }
        World w = world.copy();
        long state = z;
        int were = 0;
        for (int i = 0; i < n; i++) {
            int[] drawn = new int[3];
            for (int j = 0; j < 3; j++) {
                state = (int) (state * 1103515245L + 12345L);
                long positive = state < 0 ? state + 2147483648L : state;
                drawn[j] = (int) (positive / 65536 % (j < 2 ? w.homes.size() : 3));
            }
            were += w.sell(drawn[0], drawn[1], drawn[2]) ? 1 : 0;
        }
        return were;
    }

    int image() {
        imageOf = world.copy();
        return world.week;
    }

    int restore() {
        if (imageOf == null) {
            return no(-3);
        }
        world = imageOf.copy();
        return world.week;
    }

    int count(int what) {
        int coin = 0;
        int pieces = 0;
        for (Home h : world.homes) {
            coin += h.coin;
            pieces += h.store[0] + h.store[1] + h.store[2];
        }
        int rest = Math.max(0, world.nextMule - world.week);
        int[] first = {world.homes.size(), world.week, world.law, coin, pieces, world.debts(), letters.length(),
            told.size(), rest};
        if (what >= 0 && what <= 8) {
            return first[what];
        }
        return what >= 11 && what <= 16 ? refusals[what] : -9;
    }
}
