/**
 * Houses on a mountain that make, want, sell and owe: see README.md for how it is used.
 * No call throws: a call that can't be done answers a refusal and changes nothing but its count.
 */
public final class GoodsDownhill {
    private static final int MOST_HOUSES = 6;
    private static final int GOODS = 3;
    private static final int MOST_COIN = 9999;
    private static final int MOST_STORE = 99;
    private static final int MOST_DEBT = 99;
    private static final int LEAST_PRICE = 1;
    private static final int MOST_PRICE = 9;
    private static final int MOST_FIGURE = 9;
    private static final int HERMIT_BUYS_AT = 999;

    private static final int DOWN = 0;
    private static final int UP = 1;
    private static final int ANY = 2;

    private static final int LAST_WEEK = 9999;
    private static final int MULE_RESTS = 52;
    private static final int MOST_WEEKS_BEHIND = 60;
    private static final int MOST_WEEKS_OF_DRIFT = 100;
    private static final int MOST_WEEKS_OF_VOTES = 30;

    private static final int MOST_LETTERS = 96;
    private static final int MOST_LETTER = 255;
    private static final int WRONG_LETTER = -1000;
    private static final int WRONG_STATEMENT = -2000;
    private static final int MOST_IN_ROW = 8;
    private static final int MOST_TOLD_SALE = 999;
    private static final int MOST_SEEDED_SALES = 60;
    private static final int WITHOUT_SIGN = 0x7fffffff;

    private static final int NOBODY = -1;
    private static final int OTHER = -2;
    private static final int STATE = -3;
    private static final int BELOW = -4;
    private static final int ROOM = -6;
    private static final int REFUSAL_NUMBERS = 6;
    private static final int NONE = -9;
    /** Where an answer may itself be below 0, refusals are told far away from all answers. */
    private static final int FAR = 1000000000;

    private final Land now = new Land();
    private final Land mind = new Land();
    private final Land kept = new Land();
    private boolean isKept;
    private final Tally tally = new Tally();
    private final Tally otherTally = new Tally();
    private final Letters letters = new Letters();
    private final int[] toldSales = new int[MOST_IN_ROW];
    private int toldCount;
    private final int[] refusals = new int[REFUSAL_NUMBERS + 1];

    public GoodsDownhill() {
    }

    // ---- a mountain told in letters ----

    public int feed(int letter) {
        if (letter < 0) {
            return refuse(BELOW);
        }
        if (letter > MOST_LETTER || letters.isFull()) {
            return refuse(ROOM);
        }
        letters.add(letter);
        return letters.size;
    }

    public int mountain() {
        // Told in mind first, so that with a fault nothing of it has come.
        mind.copyFrom(now);
        int answer = letters.tellTo(mind);
        letters.size = 0;
        if (answer > 0) {
            now.copyFrom(mind);
        }
        return answer;
    }

    // ---- what there is ----

    public int house(int house, int what) {
        if (!now.hasHouse(house)) {
            return refuse(NOBODY);
        }
        House asked = now.houses[house];
        switch (what) {
            case 0: return asked.kind();
            case 1: return asked.figure;
            case 2: return asked.height;
            case 3: return asked.sellsAt();
            case 4: return asked.buysAt();
            case 5: return asked.madeGood;
            case 6: return asked.makes;
            case 7: return asked.wantedGood;
            case 8: return asked.wants;
            case 9: return now.coin[house];
            default: return refuse(OTHER);
        }
    }

    public int store(int house, int good) {
        if (!now.hasHouse(house) || !isGood(good)) {
            return refuse(NOBODY);
        }
        return now.piecesOf(house, good);
    }

    public int price(int good, int v) {
        if (!isGood(good)) {
            return refuse(NOBODY);
        }
        if (v < LEAST_PRICE) {
            return refuse(BELOW);
        }
        if (v > MOST_PRICE) {
            return refuse(ROOM);
        }
        int before = now.prices[good];
        now.prices[good] = v;
        return before;
    }

    public int law(int v) {
        if (!isLaw(v)) {
            return refuse(OTHER);
        }
        int before = now.lawNow;
        now.lawNow = v;
        return before;
    }

    public int lawful(int a, int b) {
        if (!now.areTwo(a, b)) {
            return refuse(NOBODY);
        }
        return now.isLawful(a, b) ? 1 : 0;
    }

    public int count(int what) {
        switch (what) {
            case 0: return now.size;
            case 1: return now.weekNow;
            case 2: return now.lawNow;
            case 3: return sumOf(now.coin);
            case 4: return sumOf(now.stores);
            case 5: return now.debts.total();
            case 6: return letters.size;
            case 7: return toldCount;
            case 8: return Math.max(0, now.muleFrom - now.weekNow);
            case 11:
            case 12:
            case 13:
            case 14:
            case 15:
            case 16: return refusals[what - 10];
            default: return NONE;
        }
    }

    // ---- what is done ----

    public int sale(int a, int b, int good) {
        if (!now.areTwo(a, b) || !isGood(good)) {
            return refuse(NOBODY);
        }
        if (!now.trySale(a, b, good)) {
            return refuse(STATE);
        }
        return now.coin[b];
    }

    public int week() {
        if (now.weekNow >= LAST_WEEK) {
            return refuse(ROOM);
        }
        tally.clear();
        now.passWeek(tally);
        return tally.servedInAll;
    }

    public int mule(int a, int b, int coin) {
        if (!now.areTwo(a, b)) {
            return refuse(NOBODY);
        }
        if (coin < 1) {
            return refuse(BELOW);
        }
        if (now.weekNow < now.muleFrom) {
            return refuse(STATE);
        }
        // The first test keeps the coin small, so that the sum behind it can't wrap around.
        if (coin > now.coin[a] || now.coin[b] + coin > MOST_COIN) {
            return refuse(ROOM);
        }
        now.coin[a] -= coin;
        now.coin[b] += coin;
        now.muleFrom = now.weekNow + MULE_RESTS;
        return now.muleFrom;
    }

    public int owe(int a, int b, int v) {
        if (!now.areTwo(a, b)) {
            return refuse(NOBODY);
        }
        if (v < 0) {
            return refuse(BELOW);
        }
        if (v > MOST_DEBT) {
            return refuse(ROOM);
        }
        int before = now.debts.from(a, b);
        now.debts.put(a, b, v);
        return before;
    }

    public int strike() {
        return now.debts.strikeRings();
    }

    // ---- what would be, in mind ----

    public int behind(int house, int n) {
        if (!now.hasHouse(house)) {
            return refuse(NOBODY);
        }
        if (n < 0) {
            return refuse(BELOW);
        }
        if (n > MOST_WEEKS_BEHIND) {
            return refuse(ROOM);
        }
        passInMind(n, now.lawNow, tally);
        return mind.coin[house];
    }

    public int served(int n, int what) {
        if (what < 0 || what > 1) {
            return refuse(OTHER);
        }
        if (n < 0) {
            return refuse(BELOW);
        }
        if (n > MOST_WEEKS_BEHIND) {
            return refuse(ROOM);
        }
        passInMind(n, now.lawNow, tally);
        return what == 0 ? tally.servedInAll : tally.lacksOfWeek;
    }

    public int drift(int what) {
        if (what < 0 || what > 1) {
            return refuse(OTHER);
        }
        if (now.size == 0) {
            return refuse(STATE);
        }
        mind.copyFrom(now);
        tally.clear();
        for (int weeks = 0; weeks <= MOST_WEEKS_OF_DRIFT; weeks++) {
            int richest = mind.richest();
            mind.passWeek(tally);
            // No price is 0: coin rests just in a week without a sale.
            if (tally.salesOfWeek == 0) {
                return what == 0 ? weeks : richest;
            }
        }
        return NONE;
    }

    public int votes(int law, int n) {
        if (!isLaw(law)) {
            return refuse(OTHER);
        }
        if (n < 1) {
            return refuse(BELOW);
        }
        if (n > MOST_WEEKS_OF_VOTES) {
            return refuse(ROOM);
        }
        passInMind(n, now.lawNow, tally);
        passInMind(n, law, otherTally);
        int bits = 0;
        for (int h = 0; h < now.size; h++) {
            if (otherTally.servedOf[h] > tally.servedOf[h]) {
                bits |= 1 << h;
            }
        }
        return bits;
    }

    private void passInMind(int weeks, int law, Tally into) {
        mind.copyFrom(now);
        mind.lawNow = law;
        into.clear();
        for (int w = 0; w < weeks; w++) {
            mind.passWeek(into);
        }
    }

    public int rings(int what) {
        if (what < 0 || what > 1) {
            return refuse(OTHER);
        }
        mind.copyFrom(now);
        int struck = mind.debts.strikeRings();
        return what == 0 ? struck : now.debts.total() - mind.debts.total();
    }

    public int seeds(int n, int z) {
        if (n < 1) {
            return refuse(BELOW);
        }
        if (n > MOST_SEEDED_SALES) {
            return refuse(ROOM);
        }
        if (now.size == 0) {
            return refuse(STATE);
        }
        mind.copyFrom(now);
        int sales = 0;
        int seed = z;
        for (int i = 0; i < n; i++) {
            seed = nextSeed(seed);
            int a = drawBelow(now.size, seed);
            seed = nextSeed(seed);
            int b = drawBelow(now.size, seed);
            seed = nextSeed(seed);
            if (mind.trySale(a, b, drawBelow(GOODS, seed))) {
                sales++;
            }
        }
        return sales;
    }

    private static int nextSeed(int seed) {
        return seed * 1103515245 + 12345;
    }

    private static int drawBelow(int n, int seed) {
        return n > 0 ? (seed & WITHOUT_SIGN) / 65536 % n : 0;
    }

    // ---- what may be ----

    public int stuck() {
        int pieces = 0;
        for (int good = 0; good < GOODS; good++) {
            pieces += Trade.stuckOf(now, good);
        }
        return pieces;
    }

    public int most(int good) {
        if (!isGood(good)) {
            return refuse(NOBODY);
        }
        return Trade.mostOf(now, good);
    }

    public int cellar(int house, int good, int figure) {
        if (!now.hasHouse(house) || !isGood(good)) {
            return FAR - refuse(NOBODY);
        }
        if (figure < 0) {
            return FAR - refuse(BELOW);
        }
        if (figure > MOST_FIGURE) {
            return FAR - refuse(ROOM);
        }
        mind.copyFrom(now);
        mind.houses[house] = Cellared.insteadOf(now.houses[house], figure);
        return Trade.mostOf(mind, good) - Trade.mostOf(now, good);
    }

    public int paths(int a, int b, int what) {
        if (!now.areTwo(a, b)) {
            return refuse(NOBODY);
        }
        if (what < 0 || what > 1) {
            return refuse(OTHER);
        }
        return what == 0 ? Trade.ways(now, a, b) : Trade.fewestSales(now, a, b);
    }

    public int owed(int house) {
        if (!now.hasHouse(house)) {
            return FAR - refuse(NOBODY);
        }
        return now.debts.owedTo(house);
    }

    // ---- a told row of sales ----

    public int row(int sale) {
        if (sale < 0) {
            return refuse(BELOW);
        }
        if (sale > MOST_TOLD_SALE || toldCount >= MOST_IN_ROW) {
            return refuse(ROOM);
        }
        toldSales[toldCount] = sale;
        toldCount++;
        return toldCount;
    }

    public int judge() {
        mind.copyFrom(now);
        int answer = NONE;
        for (int i = 0; i < toldCount && answer == NONE; i++) {
            int told = toldSales[i];
            if (!mind.trySale(told / 100, told / 10 % 10, told % 10)) {
                answer = i;
            }
        }
        toldCount = 0;
        return answer;
    }

    // ---- the image ----

    public int image() {
        kept.copyFrom(now);
        isKept = true;
        return now.weekNow;
    }

    public int restore() {
        if (!isKept) {
            return refuse(STATE);
        }
        now.copyFrom(kept);
        return now.weekNow;
    }

    // ---- helpers ----

    private int refuse(int number) {
        int place = -number;
        if (place >= 0 && place < refusals.length) {
            refusals[place]++;
        }
        return number;
    }

    private static boolean isGood(int good) {
        return good >= 0 && good < GOODS;
    }

    private static boolean isLaw(int law) {
        return law == DOWN || law == UP || law == ANY;
    }

    private static int sumOf(int[] numbers) {
        int sum = 0;
        for (int number : numbers) {
            sum += number;
        }
        return sum;
    }

    /**
     * What never changes of a house; its coin and stores stand in the land, so that lands can share it.
     * Kinds tell their levels outright and without annotations: LANGUAGE.md bounds how deep calls go,
     * and its library lists none.
     */
    private static class House {
        final int figure;
        final int height;
        final int madeGood;
        final int makes;
        final int wantedGood;
        final int wants;

        House(int figure, int height, int madeGood, int makes, int wantedGood, int wants) {
            this.figure = figure;
            this.height = height;
            this.madeGood = madeGood;
            this.makes = makes;
            this.wantedGood = wantedGood;
            this.wants = wants;
        }

        int kind() {
            return 0;
        }

        int sellsAt() {
            return height;
        }

        int buysAt() {
            return height;
        }

        final boolean wantsSome(int good) {
            return wants > 0 && wantedGood == good;
        }
    }

    private static class Cellared extends House {
        Cellared(int figure, int height, int madeGood, int makes, int wantedGood, int wants) {
            super(figure, height, madeGood, makes, wantedGood, wants);
        }

        static House insteadOf(House old, int figure) {
            return new Cellared(figure, old.height, old.madeGood, old.makes, old.wantedGood, old.wants);
        }

        int kind() {
            return 1;
        }

        int buysAt() {
            return height - figure;
        }
    }

    private static final class Joined extends House {
        Joined(int figure, int height, int madeGood, int makes, int wantedGood, int wants) {
            super(figure, height, madeGood, makes, wantedGood, wants);
        }

        int kind() {
            return 2;
        }

        int sellsAt() {
            return height + figure;
        }
    }

    private static final class Hermit extends House {
        Hermit(int figure, int height, int madeGood, int makes, int wantedGood, int wants) {
            super(figure, height, madeGood, makes, wantedGood, wants);
        }

        int kind() {
            return 3;
        }

        int buysAt() {
            return HERMIT_BUYS_AT;
        }
    }

    private static class Market extends Cellared {
        Market(int figure, int height, int madeGood, int makes, int wantedGood, int wants) {
            super(figure, height, madeGood, makes, wantedGood, wants);
        }

        int kind() {
            return 4;
        }

        int sellsAt() {
            return height + figure;
        }
    }

    private static final class Feigned extends Market {
        Feigned(int figure, int height, int madeGood, int makes, int wantedGood, int wants) {
            super(figure, height, madeGood, makes, wantedGood, wants);
        }

        int kind() {
            return 5;
        }

        int buysAt() {
            return height - 2 * figure;
        }
    }

    /** All that an image holds. */
    private static final class Land {
        final House[] houses = new House[MOST_HOUSES];
        int size;
        final int[] coin = new int[MOST_HOUSES];
        final int[] stores = new int[MOST_HOUSES * GOODS];
        final int[] prices = new int[GOODS];
        final Debts debts = new Debts();
        int lawNow;
        int weekNow;
        int muleFrom;

        Land() {
            // An empty place holds a house that does nothing, so that none is ever null.
            House idle = new House(0, 0, 0, 0, 0, 0);
            for (int h = 0; h < houses.length; h++) {
                houses[h] = idle;
            }
            for (int good = 0; good < prices.length; good++) {
                prices[good] = LEAST_PRICE;
            }
        }

        void copyFrom(Land other) {
            for (int h = 0; h < houses.length; h++) {
                houses[h] = other.houses[h];
            }
            size = other.size;
            System.arraycopy(other.coin, 0, coin, 0, coin.length);
            System.arraycopy(other.stores, 0, stores, 0, stores.length);
            System.arraycopy(other.prices, 0, prices, 0, prices.length);
            debts.copyFrom(other.debts);
            lawNow = other.lawNow;
            weekNow = other.weekNow;
            muleFrom = other.muleFrom;
        }

        /** Whether there was room for it, and so it has come. */
        boolean addHouse(House house, int itsCoin) {
            if (size >= MOST_HOUSES) {
                return false;
            }
            houses[size] = house;
            coin[size] = itsCoin;
            size++;
            return true;
        }

        boolean hasHouse(int h) {
            return h >= 0 && h < size;
        }

        boolean areTwo(int a, int b) {
            return hasHouse(a) && hasHouse(b) && a != b;
        }

        int piecesOf(int h, int good) {
            return stores[h * GOODS + good];
        }

        private void addPieces(int h, int good, int pieces) {
            stores[h * GOODS + good] += pieces;
        }

        boolean isLawful(int a, int b) {
            if (a == b) {
                return false;
            }
            int buysAt = houses[b].buysAt();
            int sellsAt = houses[a].sellsAt();
            switch (lawNow) {
                case DOWN: return buysAt < sellsAt;
                case UP: return buysAt > sellsAt;
                default: return true;
            }
        }

        /** All that a sale needs beside being lawful. */
        private boolean hasMeans(int a, int b, int good) {
            return piecesOf(a, good) > 0
                && coin[b] >= prices[good]
                && piecesOf(b, good) < MOST_STORE
                && coin[a] + prices[good] <= MOST_COIN;
        }

        private void moveOnePiece(int a, int b, int good) {
            addPieces(a, good, -1);
            addPieces(b, good, 1);
            coin[b] -= prices[good];
            coin[a] += prices[good];
        }

        /** Whether the sale could be, and so was; what names no houses or no good can't be. */
        boolean trySale(int a, int b, int good) {
            if (!areTwo(a, b) || !isGood(good) || !isLawful(a, b) || !hasMeans(a, b, good)) {
                return false;
            }
            moveOnePiece(a, b, good);
            return true;
        }

        void passWeek(Tally tally) {
            tally.beginWeek();
            for (int h = 0; h < size; h++) {
                makeGoods(h);
            }
            for (int h = 0; h < size; h++) {
                tally.salesOfWeek += buyWanted(h);
            }
            for (int h = 0; h < size; h++) {
                tally.addUse(h, useWanted(h), houses[h].wants);
            }
            weekNow++;
        }

        private void makeGoods(int h) {
            House maker = houses[h];
            int room = MOST_STORE - piecesOf(h, maker.madeGood);
            addPieces(h, maker.madeGood, Math.min(maker.makes, room));
        }

        private int buyWanted(int buyer) {
            int good = houses[buyer].wantedGood;
            int lacking = houses[buyer].wants - piecesOf(buyer, good);
            for (int bought = 0; bought < lacking; bought++) {
                int seller = fullestSellerTo(buyer, good);
                if (seller < 0) {
                    return bought;
                }
                moveOnePiece(seller, buyer, good);
            }
            return Math.max(0, lacking);
        }

        private int fullestSellerTo(int buyer, int good) {
            int fullest = -1;
            for (int h = 0; h < size; h++) {
                if (!houses[h].wantsSome(good) && isLawful(h, buyer) && hasMeans(h, buyer, good)
                        && (fullest < 0 || piecesOf(h, good) > piecesOf(fullest, good))) {
                    fullest = h;
                }
            }
            return fullest;
        }

        private int useWanted(int h) {
            int good = houses[h].wantedGood;
            int used = Math.min(houses[h].wants, piecesOf(h, good));
            addPieces(h, good, -used);
            return used;
        }

        int richest() {
            int richest = 0;
            for (int h = 1; h < size; h++) {
                if (coin[h] > coin[richest]) {
                    richest = h;
                }
            }
            return richest;
        }
    }

    /** What is told of weeks that went by. */
    private static final class Tally {
        int servedInAll;
        int salesOfWeek;
        int lacksOfWeek;
        final int[] servedOf = new int[MOST_HOUSES];

        void clear() {
            servedInAll = 0;
            beginWeek();
            for (int h = 0; h < servedOf.length; h++) {
                servedOf[h] = 0;
            }
        }

        void beginWeek() {
            salesOfWeek = 0;
            lacksOfWeek = 0;
        }

        void addUse(int h, int used, int wanted) {
            servedInAll += used;
            servedOf[h] += used;
            lacksOfWeek += wanted - used;
        }
    }

    /** Who owes whom how much. */
    private static final class Debts {
        private final int[] sums = new int[MOST_HOUSES * MOST_HOUSES];

        void copyFrom(Debts other) {
            System.arraycopy(other.sums, 0, sums, 0, sums.length);
        }

        int from(int a, int b) {
            return sums[a * MOST_HOUSES + b];
        }

        void put(int a, int b, int sum) {
            sums[a * MOST_HOUSES + b] = sum;
        }

        int total() {
            return sumOf(sums);
        }

        int owedTo(int h) {
            int balance = 0;
            for (int other = 0; other < MOST_HOUSES; other++) {
                balance += from(other, h) - from(h, other);
            }
            return balance;
        }

        /**
         * Striking only lessens debts, so that behind the first ring no earlier one can come to be,
         * and one that was struck is no ring any more: going through all of them once is enough.
         */
        int strikeRings() {
            int struck = 0;
            for (int a = 0; a < MOST_HOUSES; a++) {
                for (int b = a + 1; b < MOST_HOUSES; b++) {
                    struck += strikeTwo(a, b);
                }
            }
            for (int a = 0; a < MOST_HOUSES; a++) {
                for (int b = a + 1; b < MOST_HOUSES; b++) {
                    for (int c = a + 1; c < MOST_HOUSES; c++) {
                        struck += b == c ? 0 : strikeThree(a, b, c);
                    }
                }
            }
            return struck;
        }

        private int strikeTwo(int a, int b) {
            int least = Math.min(from(a, b), from(b, a));
            put(a, b, from(a, b) - least);
            put(b, a, from(b, a) - least);
            return least > 0 ? 1 : 0;
        }

        private int strikeThree(int a, int b, int c) {
            int least = Math.min(from(a, b), Math.min(from(b, c), from(c, a)));
            put(a, b, from(a, b) - least);
            put(b, c, from(b, c) - least);
            put(c, a, from(c, a) - least);
            return least > 0 ? 1 : 0;
        }
    }

    /** Questions about what may be sold to whom; they change nothing. */
    private static final class Trade {
        static int stuckOf(Land land, int good) {
            int pieces = 0;
            for (int h = 0; h < land.size; h++) {
                if (!land.houses[h].wantsSome(good) && !hasBuyer(land, h, good)) {
                    pieces += land.piecesOf(h, good);
                }
            }
            return pieces;
        }

        private static boolean hasBuyer(Land land, int seller, int good) {
            for (int h = 0; h < land.size; h++) {
                if (land.houses[h].wantsSome(good) && land.isLawful(seller, h)) {
                    return true;
                }
            }
            return false;
        }

        /** The most that can flow is the least that cuts: so few houses allow looking at every cut. */
        static int mostOf(Land land, int good) {
            int least = cutBeside(land, good, 0);
            for (int uncut = 1; uncut < 1 << land.size; uncut++) {
                least = Math.min(least, cutBeside(land, good, uncut));
            }
            return least;
        }

        /** Stores of all sellers but the uncut ones (bits), and wants of all to whom those may sell. */
        private static int cutBeside(Land land, int good, int uncut) {
            int cut = 0;
            for (int h = 0; h < land.size; h++) {
                if (land.houses[h].wantsSome(good)) {
                    cut += hasSellerAmong(land, h, good, uncut) ? land.houses[h].wants : 0;
                } else if ((uncut >> h & 1) == 0) {
                    cut += land.piecesOf(h, good);
                }
            }
            return cut;
        }

        private static boolean hasSellerAmong(Land land, int buyer, int good, int among) {
            for (int h = 0; h < land.size; h++) {
                if ((among >> h & 1) == 1 && !land.houses[h].wantsSome(good) && land.isLawful(h, buyer)) {
                    return true;
                }
            }
            return false;
        }

        static int ways(Land land, int from, int to) {
            return waysOn(land, from, to, 1 << from, 0);
        }

        /** Ways on from a house, without the seen ones (bits); each sale sees one more, so it ends. */
        private static int waysOn(Land land, int from, int to, int seen, int sales) {
            if (from == to) {
                return 1;
            }
            if (sales >= MOST_HOUSES) {
                return 0;
            }
            int ways = 0;
            for (int next = 0; next < land.size; next++) {
                if ((seen >> next & 1) == 0 && land.isLawful(from, next)) {
                    ways += waysOn(land, next, to, seen | 1 << next, sales + 1);
                }
            }
            return ways;
        }

        static int fewestSales(Land land, int from, int to) {
            int reached = 1 << from;
            for (int sales = 1; sales < MOST_HOUSES; sales++) {
                reached |= oneSaleBehind(land, reached);
                if ((reached >> to & 1) == 1) {
                    return sales;
                }
            }
            return NONE;
        }

        private static int oneSaleBehind(Land land, int reached) {
            int next = 0;
            for (int a = 0; a < land.size; a++) {
                for (int b = 0; b < land.size; b++) {
                    if ((reached >> a & 1) == 1 && land.isLawful(a, b)) {
                        next |= 1 << b;
                    }
                }
            }
            return next;
        }
    }

    /** The letters that came, and how they are read. */
    private static final class Letters {
        private final int[] signs = new int[MOST_LETTERS];
        int size;

        boolean isFull() {
            return size >= MOST_LETTERS;
        }

        void add(int sign) {
            if (!isFull()) {
                signs[size] = sign;
                size++;
            }
        }

        /** The place of the first letter with which no mountain can go on; below 0: there is none. */
        int firstWrongPlace() {
            if (size == 0) {
                return 0;
            }
            int place = 0;
            while (place < size) {
                int most = mostDigits(signs[place]);
                if (most == 0) {
                    return place;
                }
                int end = endOfDigits(place + 1, most);
                boolean enough = end - place - 1 >= leastDigits(signs[place]);
                if (!enough || end >= size || signs[end] != ';') {
                    return end;
                }
                place = end + 1;
            }
            return -1;
        }

        private int endOfDigits(int from, int most) {
            int end = from;
            while (end < size && end - from < most && signs[end] >= '0' && signs[end] <= '9') {
                end++;
            }
            return end;
        }

        private static int leastDigits(int head) {
            switch (head) {
                case 'h': return 9;
                case 'p': return 2;
                case 'l': return 1;
                case 'd': return 3;
                default: return 0;
            }
        }

        private static int mostDigits(int head) {
            switch (head) {
                case 'h': return 11;
                case 'p': return 2;
                case 'l': return 1;
                case 'd': return 4;
                default: return 0;
            }
        }

        private int endOfStatement(int start) {
            int end = start;
            while (end < size && signs[end] != ';') {
                end++;
            }
            return end;
        }

        /** The number that the letters from a place on tell, all before the end. */
        private int number(int from, int end) {
            int number = 0;
            for (int place = from; place < end && place < size; place++) {
                number = number * 10 + signs[place] - '0';
            }
            return number;
        }

        private int digit(int place) {
            return number(place, place + 1);
        }

        /** How many statements came to the land; or the fault, with which the land may hold a part of them. */
        int tellTo(Land land) {
            int wrong = firstWrongPlace();
            if (wrong >= 0) {
                return WRONG_LETTER - wrong;
            }
            int statements = 0;
            int start = 0;
            while (start < size) {
                int end = endOfStatement(start);
                boolean fits;
                switch (signs[start]) {
                    case 'h': fits = tellHouse(land, start, end); break;
                    case 'p': fits = tellPrice(land, start); break;
                    case 'l': fits = tellLaw(land, start); break;
                    default: fits = tellDebt(land, start, end); break;
                }
                if (!fits) {
                    return WRONG_STATEMENT - start;
                }
                statements++;
                start = end + 1;
            }
            return statements;
        }

        private boolean tellHouse(Land land, int start, int end) {
            int figure = digit(start + 2);
            int height = number(start + 3, start + 5);
            int made = digit(start + 5);
            int makes = digit(start + 6);
            int wanted = digit(start + 7);
            int wants = digit(start + 8);
            if (!isGood(made) || !isGood(wanted)) {
                return false;
            }
            House house;
            switch (digit(start + 1)) {
                case 0: house = new House(figure, height, made, makes, wanted, wants); break;
                case 1: house = new Cellared(figure, height, made, makes, wanted, wants); break;
                case 2: house = new Joined(figure, height, made, makes, wanted, wants); break;
                case 3: house = new Hermit(figure, height, made, makes, wanted, wants); break;
                case 4: house = new Market(figure, height, made, makes, wanted, wants); break;
                case 5: house = new Feigned(figure, height, made, makes, wanted, wants); break;
                default: return false;
            }
            return land.addHouse(house, number(start + 9, end));
        }

        private boolean tellPrice(Land land, int start) {
            int good = digit(start + 1);
            int price = digit(start + 2);
            if (!isGood(good) || price < LEAST_PRICE || price > MOST_PRICE) {
                return false;
            }
            land.prices[good] = price;
            return true;
        }

        private boolean tellLaw(Land land, int start) {
            int law = digit(start + 1);
            if (!isLaw(law)) {
                return false;
            }
            land.lawNow = law;
            return true;
        }

        private boolean tellDebt(Land land, int start, int end) {
            int a = digit(start + 1);
            int b = digit(start + 2);
            if (!land.areTwo(a, b)) {
                return false;
            }
            land.debts.put(a, b, number(start + 3, end));
            return true;
        }
    }
}
