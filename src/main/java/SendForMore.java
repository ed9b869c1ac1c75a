/**
 * When to send for more: one thing kept in a shop, asked for by chances that are told as weights.
 * The words in capitals are those of the document.
 *
 * Every chance is held as a whole number over a power of W, so no fraction is ever rounded:
 * 63^6 times the dearest six days stays far below what a long holds.
 */
public final class SendForMore {
    public static final int BAD = -1, FULL = -2, FINDING = -3, STATE = -4, NONE = -9;

    private static final int NOTHING = 1, BEYOND = 2, UNLIKE = 3, NOUGHT = 4, SIZE = 5;
    private static final int BOOKS = 4, DEMANDS = 7, HEAVIEST = 9;
    private static final int SHEETS = 4, LONGEST_SHEET = 25;
    private static final int RULES_EVER = 12;
    private static final int TABLE = 0, BASE = 1, PAIR = 2, LOT = 3;
    private static final int LOWEST = -12, PIECES = 12, HIGHEST_POSITION = 36;
    private static final int POSITIONS = HIGHEST_POSITION - LOWEST + 1;
    private static final int LONGEST_LEAD = 2, MOST_DAYS = 6, DEAREST = 100;
    private static final int LONGEST_AGE = 3, LARGEST_ODDS = 9, MOST_SEEN = 6;
    private static final long NO_LIMIT = 1L << 62;

    private final Book[] books = new Book[BOOKS];
    private final byte[][] sheetBytes = new byte[SHEETS][LONGEST_SHEET];
    private final int[] sheetSizes = new int[SHEETS];
    private final Rule[] rules = new Rule[RULES_EVER];
    private int rulesEver;
    private final Shop shop = new Shop();
    private final Walk walk;
    private final Planner planner;
    private final Spoiling spoiling;
    private boolean pairKnown;
    private int pairLow;
    private int pairTop;
    private final int[] seen = new int[MOST_SEEN];
    private int seenCount;
    private long upperNumber = 0;
    private long lowerNumber = 1;
    private int latestFinding;
    private final int[] findingCounts = new int[SIZE + 1];

    public SendForMore() {
        for (int b = 0; b < books.length; b++) {
            books[b] = new Book();
        }
        for (int s = 0; s < sheetSizes.length; s++) {
            sheetSizes[s] = -1;
        }
        Spread spread = new Spread();
        walk = new Walk(shop, spread);
        planner = new Planner(shop);
        spoiling = new Spoiling(spread);
    }

    // ---- 1 books, sheets, rules

    public int book(int b) {
        if (!isBook(b)) {
            return BAD;
        }
        boolean was = books[b].there;
        books[b].open();
        return was ? 1 : 0;
    }

    public int weigh(int b, int demand, int w) {
        if (!isBook(b) || !isWithin(w, 0, HEAVIEST)) {
            return BAD;
        }
        if (!books[b].there) {
            return refuse(NOTHING);
        }
        if (!isDemand(demand)) {
            return refuse(BEYOND);
        }
        int was = books[b].weights[demand];
        books[b].weights[demand] = w;
        return was;
    }

    public int close(int b) {
        if (!isBook(b)) {
            return BAD;
        }
        if (!books[b].there) {
            return refuse(NOTHING);
        }
        books[b].there = false;
        return 1;
    }

    public int copy(int b, int i, int to, int j, int n) {
        if (!isBook(b) || !isBook(to)) {
            return BAD;
        }
        if (!books[b].there || !books[to].there) {
            return refuse(NOTHING);
        }
        if (!isStretch(i, n) || !isStretch(j, n)) {
            return refuse(BEYOND);
        }
        System.arraycopy(books[b].weights, i, books[to].weights, j, n);
        return 1;
    }

    public int mean(int b) {
        if (!isBook(b)) {
            return BAD;
        }
        int lacking = lackOf(books[b]);
        if (lacking != 0) {
            return refuse(lacking);
        }
        int all = books[b].weightOfAll();
        return all > 0 ? books[b].weightedDemands() / all : 0;
    }

    public int sheet(int s, int n) {
        if (!isSheet(s) || n > LONGEST_SHEET) {
            return BAD;
        }
        if (n < 0) {
            return refuse(SIZE);
        }
        for (int i = 0; i < sheetBytes[s].length; i++) {
            sheetBytes[s][i] = 0;
        }
        sheetSizes[s] = n;
        return n;
    }

    public int lay(int s, int i, int v) {
        if (!isSheet(s)) {
            return BAD;
        }
        if (sheetSizes[s] < 0) {
            return refuse(NOTHING);
        }
        if (!isWithin(i, 0, sheetSizes[s] - 1)) {
            return refuse(BEYOND);
        }
        int was = sheetBytes[s][i];
        sheetBytes[s][i] = (byte) v;
        return was + 1000;
    }

    public int tear(int s) {
        if (!isSheet(s)) {
            return BAD;
        }
        if (sheetSizes[s] < 0) {
            return refuse(NOTHING);
        }
        sheetSizes[s] = -1;
        return 1;
    }

    public int table(int s) {
        if (!isSheet(s)) {
            return BAD;
        }
        if (rulesEver >= RULES_EVER) {
            return FULL;
        }
        if (sheetSizes[s] < 0) {
            return refuse(NOTHING);
        }
        return keep(new Table(sheetBytes[s], sheetSizes[s]));
    }

    public int rule(int kind, int a, int b) {
        if (!isRuleOf(kind, a, b)) {
            return BAD;
        }
        if (rulesEver >= RULES_EVER) {
            return FULL;
        }
        if (kind == BASE) {
            return keep(new Base(a));
        }
        return kind == PAIR ? keep(new Pair(a, b)) : keep(new Lot(a, b));
    }

    public int drop(int rule) {
        if (!isRule(rule)) {
            return BAD;
        }
        if (rules[rule] == null) {
            return refuse(NOTHING);
        }
        rules[rule] = null;
        return 1;
    }

    public int told(int rule, int what) {
        if (!isRule(rule) || !isWithin(what, 0, 4)) {
            return BAD;
        }
        if (rules[rule] == null) {
            return refuse(NOTHING);
        }
        return tellOf(rules[rule], what);
    }

    public int mark(int rule, int kind) {
        if (!isRule(rule) || !isWithin(kind, TABLE, LOT)) {
            return BAD;
        }
        Rule of = rules[rule];
        if (of == null) {
            return refuse(NOTHING);
        }
        if (kind == TABLE) {
            return rule;
        }
        if (kind == BASE && of instanceof Base base) {
            return base.top;
        }
        if (kind == PAIR && of instanceof Pair pair) {
            return pair.top - pair.low;
        }
        if (kind == LOT && of instanceof Lot lot) {
            return lot.pieces;
        }
        return refuse(UNLIKE);
    }

    public int order(int rule, int position) {
        if (!isRule(rule) || !isPosition(position)) {
            return BAD;
        }
        if (rules[rule] == null) {
            return refuse(NOTHING);
        }
        return cutOrder(rules[rule].wants(position));
    }

    // ---- 2 the shop

    public int shop(int most, int lead, boolean owed) {
        if (!isWithin(most, 1, PIECES) || !isWithin(lead, 0, LONGEST_LEAD)) {
            return BAD;
        }
        shop.most = most;
        shop.lead = lead;
        shop.owed = owed;
        return 1;
    }

    public int costs(int k, int c, int h, int b) {
        if (!isPrice(k) || !isPrice(c) || !isPrice(h) || !isPrice(b)) {
            return BAD;
        }
        shop.perOrder = k;
        shop.perPiece = c;
        shop.perLeft = h;
        shop.perLacking = b;
        return 1;
    }

    public int cost(int rule, int book, int x, int days) {
        if (!isRule(rule) || !isStart(book, x, days)) {
            return BAD;
        }
        int lacking = lackOfEither(rules[rule], books[book]);
        if (lacking != 0) {
            return refuse(lacking);
        }
        shop.reckon(books[book]);
        walk.useRule(rules[rule]);
        long spent = walk.follow(books[book], x, days, NO_LIMIT);
        return tell(spent, rowsOf(books[book], days));
    }

    public int service(int kind, int rule, int book, int x, int days) {
        if (!isWithin(kind, 0, 2) || !isRule(rule) || !isStart(book, x, days)) {
            return BAD;
        }
        int lacking = lackOfEither(rules[rule], books[book]);
        if (lacking != 0) {
            return refuse(lacking);
        }
        Book by = books[book];
        shop.reckon(by);
        walk.useRule(rules[rule]);
        if (kind == 0) {
            return tell(walk.followUnbroken(by, x, days), rowsOf(by, days));
        }
        walk.follow(by, x, days, NO_LIMIT);
        if (kind == 1) {
            return tell(walk.met, days * by.weightedDemands() * rowsOf(by, days - 1));
        }
        return tell(walk.eveningsInHand, days * rowsOf(by, days));
    }

    public int best(int book, int x, int days) {
        if (!isStart(book, x, days)) {
            return BAD;
        }
        int lacking = lackOf(books[book]);
        if (lacking != 0) {
            return refuse(lacking);
        }
        shop.reckon(books[book]);
        planner.plan(books[book], x, days);
        tell(planner.least, rowsOf(books[book], days));
        return planner.chosen;
    }

    public int bestPair(int book, int x, int days) {
        if (!isStart(book, x, days)) {
            return BAD;
        }
        int lacking = lackOf(books[book]);
        if (lacking != 0) {
            return refuse(lacking);
        }
        shop.reckon(books[book]);
        long spent = seekPair(books[book], x, days);
        return tell(spent, rowsOf(books[book], days));
    }

    public int pairTold(int what) {
        if (!isWithin(what, 0, 1)) {
            return BAD;
        }
        if (!pairKnown) {
            return NONE;
        }
        return what == 0 ? pairLow : pairTop;
    }

    // ---- 3 spoiling, doubts

    public int spoilt(int book, int s, int age, int days, boolean newest) {
        if (!isBook(book) || !isWithin(s, 0, PIECES) || !isWithin(age, 1, LONGEST_AGE) || !areDays(days)) {
            return BAD;
        }
        int lacking = lackOf(books[book]);
        if (lacking != 0) {
            return refuse(lacking);
        }
        spoiling.begin(s, age, newest);
        long gone = spoiling.follow(books[book], days);
        return tell(gone, rowsOf(books[book], days));
    }

    public int see(int demand) {
        if (!isDemand(demand)) {
            return BAD;
        }
        if (seenCount >= seen.length) {
            return FULL;
        }
        seen[seenCount] = demand;
        seenCount++;
        return seenCount;
    }

    public int forget() {
        int were = seenCount;
        seenCount = 0;
        return were;
    }

    public int doubt(int p, int q, int u, int v) {
        if (!isBook(p) || !isBook(q) || p == q) {
            return BAD;
        }
        if (!isWithin(u, 1, LARGEST_ODDS) || !isWithin(v, 1, LARGEST_ODDS)) {
            return BAD;
        }
        if (!books[p].there || !books[q].there) {
            return refuse(NOTHING);
        }
        if (books[p].weightOfAll() == 0 || books[q].weightOfAll() == 0) {
            return refuse(NOUGHT);
        }
        long forP = u * weightOfSeen(books[p]) * rowsOf(books[q], seenCount);
        long forQ = v * weightOfSeen(books[q]) * rowsOf(books[p], seenCount);
        if (forP + forQ == 0) {
            return refuse(NOUGHT);
        }
        return tell(forP, forP + forQ);
    }

    // ---- 4 what is told

    public long upper() {
        return upperNumber;
    }

    public long lower() {
        return lowerNumber;
    }

    public int count(int what) {
        switch (what) {
            case 0:
                return rulesEver;
            case 1:
                return rulesThere();
            case 2:
                return seenCount;
            case 3:
                return shop.most;
            case 4:
                return shop.lead;
            case 5:
                return shop.owed ? 1 : 0;
            default:
                return BAD;
        }
    }

    public int finding() {
        return latestFinding;
    }

    public int findings(int f) {
        return isWithin(f, NOTHING, SIZE) ? findingCounts[f] : BAD;
    }

    public long digest() {
        long h = 17;
        for (int what = 0; what <= 5; what++) {
            h = 31 * h + count(what);
        }
        h = 31 * h + shop.perOrder;
        h = 31 * h + shop.perPiece;
        h = 31 * h + shop.perLeft;
        h = 31 * h + shop.perLacking;
        return digestSheets(digestRules(digestBooks(h)));
    }

    // ---- what the calls share

    private static boolean isWithin(int v, int least, int most) {
        return v >= least && v <= most;
    }

    private static boolean isBook(int b) {
        return isWithin(b, 0, BOOKS - 1);
    }

    private static boolean isDemand(int demand) {
        return isWithin(demand, 0, DEMANDS - 1);
    }

    private static boolean isSheet(int s) {
        return isWithin(s, 0, SHEETS - 1);
    }

    private static boolean isPosition(int position) {
        return isWithin(position, LOWEST, HIGHEST_POSITION);
    }

    private static boolean isPrice(int price) {
        return isWithin(price, 0, DEAREST);
    }

    private static boolean areDays(int days) {
        return isWithin(days, 1, MOST_DAYS);
    }

    /** A number that no RULE ever had is none; one that was dropped still is a number. */
    private boolean isRule(int rule) {
        return isWithin(rule, 0, Math.min(rulesEver, rules.length) - 1);
    }

    private static boolean isRuleOf(int kind, int a, int b) {
        switch (kind) {
            case BASE:
                return isWithin(a, 0, PIECES);
            case PAIR:
                return isWithin(b, 0, PIECES) && isWithin(a, LOWEST, b - 1);
            case LOT:
                return isWithin(a, LOWEST, PIECES) && isWithin(b, 1, PIECES);
            default:
                return false;
        }
    }

    private boolean isStart(int book, int x, int days) {
        return isBook(book) && areDays(days) && isWithin(x, shop.floor(), shop.most);
    }

    /** n weights from one on: none from just behind the last one is still a stretch. */
    private static boolean isStretch(int from, int n) {
        return isWithin(n, 0, DEMANDS) && isWithin(from, 0, DEMANDS - n);
    }

    private int refuse(int f) {
        latestFinding = f;
        if (isWithin(f, NOTHING, SIZE)) {
            findingCounts[f]++;
        }
        return FINDING;
    }

    private static int lackOf(Book book) {
        if (!book.there) {
            return NOTHING;
        }
        return book.weightOfAll() == 0 ? NOUGHT : 0;
    }

    private static int lackOfEither(Rule rule, Book book) {
        return rule == null ? NOTHING : lackOf(book);
    }

    private int keep(Rule rule) {
        int number = rulesEver;
        if (isWithin(number, 0, rules.length - 1)) {
            rules[number] = rule;
            rulesEver++;
        }
        return number;
    }

    private static int tellOf(Rule rule, int what) {
        switch (what) {
            case 0:
                return rule.kindNumber();
            case 1:
                return rule.topMark();
            case 2:
                return rule.lowMark();
            case 3:
                return rule.lotSize();
            default:
                return rule.tableSize();
        }
    }

    private static int cutOrder(int wanted) {
        return Math.max(0, Math.min(PIECES, wanted));
    }

    private int rulesThere() {
        int there = 0;
        for (int r = 0; r < rules.length; r++) {
            if (rules[r] != null) {
                there++;
            }
        }
        return there;
    }

    /**
     * Rising s and a cost that must be strictly less keep the least S and then the least s.
     * A PAIR differs from the one with s less by 1 only at the POSITION s: where the walk of that
     * one never came there, this one would go the very same way.
     */
    private long seekPair(Book book, int x, int days) {
        long least = NO_LIMIT;
        for (int top = 0; top <= shop.most; top++) {
            for (int low = LOWEST; low < top; low++) {
                if (low > LOWEST && !walk.hasReached(low)) {
                    continue;
                }
                walk.usePair(low, top);
                long spent = walk.follow(book, x, days, least);
                if (spent < least) {
                    least = spent;
                    pairLow = low;
                    pairTop = top;
                }
            }
        }
        pairKnown = true;
        return least;
    }

    private long weightOfSeen(Book book) {
        long product = 1;
        for (int i = 0; i < seenCount && i < seen.length; i++) {
            product *= book.weightOf(seen[i]);
        }
        return product;
    }

    /** W to the n-th: by that many the weights of all rows of n DEMANDS are shared. */
    private static long rowsOf(Book book, int n) {
        long all = book.weightOfAll();
        long product = 1;
        for (int i = 0; i < n; i++) {
            product *= all;
        }
        return product;
    }

    /** Shared among none is told as 0 by 1, as SERVICE 1 asks where both are 0. */
    private int tell(long upper, long lower) {
        long common = commonDivisor(upper, lower);
        if (lower <= 0 || common <= 0) {
            upperNumber = 0;
            lowerNumber = 1;
        } else {
            upperNumber = upper / common;
            lowerNumber = lower / common;
        }
        return 1;
    }

    private static long commonDivisor(long a, long b) {
        long larger = a;
        long smaller = b;
        // Two longs are through after some 90 steps.
        for (int step = 0; step < 200 && smaller != 0; step++) {
            long rest = larger % smaller;
            larger = smaller;
            smaller = rest;
        }
        return larger;
    }

    private long digestBooks(long before) {
        long h = before;
        for (int b = 0; b < books.length; b++) {
            if (!books[b].there) {
                h = 31 * h - 1;
                continue;
            }
            for (int d = 0; d < DEMANDS; d++) {
                h = 31 * h + books[b].weightOf(d);
            }
        }
        return h;
    }

    private long digestRules(long before) {
        long h = before;
        for (int r = 0; r < rulesEver && r < rules.length; r++) {
            if (rules[r] == null) {
                h = 31 * h - 1;
                continue;
            }
            for (int what = 0; what <= 4; what++) {
                h = 31 * h + tellOf(rules[r], what);
            }
        }
        return h;
    }

    private long digestSheets(long before) {
        long h = before;
        for (int s = 0; s < SHEETS; s++) {
            h = 31 * h + sheetSizes[s];
            for (int i = 0; i < sheetSizes[s] && i < LONGEST_SHEET; i++) {
                h = 31 * h + sheetBytes[s][i];
            }
        }
        return h;
    }

    /** A row of weights; a missing one keeps its row, so that opening it again makes nothing new. */
    private static final class Book {
        boolean there;
        final int[] weights = new int[DEMANDS];

        void open() {
            there = true;
            for (int d = 0; d < weights.length; d++) {
                weights[d] = 0;
            }
        }

        int weightOf(int demand) {
            return demand >= 0 && demand < weights.length ? weights[demand] : 0;
        }

        int weightOfAll() {
            int all = 0;
            for (int d = 0; d < weights.length; d++) {
                all += weights[d];
            }
            return all;
        }

        int weightedDemands() {
            int all = 0;
            for (int d = 0; d < weights.length; d++) {
                all += d * weights[d];
            }
            return all;
        }
    }

    private abstract static class Rule {
        abstract int kindNumber();

        /** What it would ORDER at a POSITION, before that is cut to 0 .. 12. */
        abstract int wants(int position);

        int topMark() {
            return NONE;
        }

        int lowMark() {
            return NONE;
        }

        int lotSize() {
            return NONE;
        }

        int tableSize() {
            return NONE;
        }
    }

    private static final class Table extends Rule {
        private final byte[] bytes;

        /** Bytes of its own, as the SHEET may change or be torn later. */
        Table(byte[] from, int size) {
            int length = Math.max(0, Math.min(size, from.length));
            bytes = new byte[length];
            System.arraycopy(from, 0, bytes, 0, length);
        }

        int kindNumber() {
            return TABLE;
        }

        int wants(int position) {
            int place = position - LOWEST;
            return isWithin(place, 0, bytes.length - 1) ? bytes[place] : 0;
        }

        int tableSize() {
            return bytes.length;
        }
    }

    private static class Base extends Rule {
        final int top;

        Base(int top) {
            this.top = top;
        }

        int kindNumber() {
            return BASE;
        }

        int wants(int position) {
            return top - position;
        }

        int topMark() {
            return top;
        }
    }

    private static final class Pair extends Base {
        final int low;

        Pair(int low, int top) {
            super(top);
            this.low = low;
        }

        int kindNumber() {
            return PAIR;
        }

        int wants(int position) {
            return pairWants(low, top, position);
        }

        int lowMark() {
            return low;
        }

        /** Apart from any object, as the search for THE BEST PAIR tries hundreds. */
        static int pairWants(int low, int top, int position) {
            return position <= low ? top - position : 0;
        }
    }

    private static final class Lot extends Rule {
        final int low;
        final int pieces;

        Lot(int low, int pieces) {
            this.low = low;
            this.pieces = pieces;
        }

        int kindNumber() {
            return LOT;
        }

        int wants(int position) {
            return position <= low ? pieces : 0;
        }

        int lowMark() {
            return low;
        }

        int lotSize() {
            return pieces;
        }
    }

    /** What THE SHOP is told to be, and what one DAY does in it. */
    private static final class Shop {
        static final int HANDS = PIECES - LOWEST + 1;

        int most = PIECES;
        int lead;
        boolean owed;
        int perOrder = 10;
        int perPiece = 1;
        int perLeft = 1;
        int perLacking = 5;
        private final int[] prices = new int[HANDS];
        private final int[] met = new int[HANDS];
        private final int[] inHand = new int[HANDS];

        int floor() {
            return owed ? LOWEST : 0;
        }

        int filled(int x, int more) {
            return Math.min(x + more, most);
        }

        int leftOf(int x, int demand) {
            return Math.max(x - demand, owed ? LOWEST : 0);
        }

        int orderPrice(int order) {
            return order > 0 ? perOrder + perPiece * order : 0;
        }

        /** Once for a call, as its days come to the same few x over and over. */
        void reckon(Book book) {
            for (int hand = 0; hand < HANDS; hand++) {
                prices[hand] = 0;
                met[hand] = 0;
                inHand[hand] = 0;
                for (int d = 0; d < DEMANDS; d++) {
                    reckonDemand(hand, d, book.weightOf(d));
                }
            }
        }

        private void reckonDemand(int hand, int demand, int weight) {
            int x = hand + LOWEST;
            int given = Math.min(demand, Math.max(x, 0));
            int left = Math.max(leftOf(x, demand), 0);
            prices[hand] += weight * (perLeft * left + perLacking * (demand - given));
            met[hand] += weight * given;
            inHand[hand] += left > 0 ? weight : 0;
        }

        /** What the evening costs, ORDER aside, over all DEMANDS by their weights. */
        int priceFrom(int x) {
            return isHand(x) ? prices[x - LOWEST] : 0;
        }

        int metFrom(int x) {
            return isHand(x) ? met[x - LOWEST] : 0;
        }

        /** The weight of the DEMANDS after which x is still above 0. */
        int inHandFrom(int x) {
            return isHand(x) ? inHand[x - LOWEST] : 0;
        }

        private static boolean isHand(int x) {
            return x >= LOWEST && x <= PIECES;
        }
    }

    /** How the weights lie over places, today and, as it is being filled, tomorrow. */
    private static final class Spread {
        static final int PLACES = Walk.STOCKS * (PIECES + 1);

        private long[] weights = new long[PLACES];
        private long[] nextWeights = new long[PLACES];
        private int[] places = new int[PLACES];
        private int[] nextPlaces = new int[PLACES];
        private int size;
        private int nextSize;

        /** Tomorrow is always empty here: every day that was begun has been ended. */
        void startAt(int place) {
            add(place, 1);
            turnToTomorrow();
        }

        void add(int place, long weight) {
            if (place < 0 || place >= PLACES || weight <= 0) {
                return;
            }
            if (nextWeights[place] == 0 && nextSize < PLACES) {
                nextPlaces[nextSize] = place;
                nextSize++;
            }
            nextWeights[place] += weight;
        }

        void turnToTomorrow() {
            for (int i = 0; i < size; i++) {
                int place = placeAt(i);
                if (isPlace(place)) {
                    weights[place] = 0;
                }
            }
            long[] emptied = weights;
            weights = nextWeights;
            nextWeights = emptied;
            int[] free = places;
            places = nextPlaces;
            nextPlaces = free;
            size = nextSize;
            nextSize = 0;
        }

        int places() {
            return size;
        }

        int placeAt(int i) {
            return isPlace(i) ? places[i] : 0;
        }

        long weightAt(int place) {
            return isPlace(place) ? weights[place] : 0;
        }

        long weightOfAll() {
            long all = 0;
            for (int i = 0; i < size; i++) {
                all += weightAt(placeAt(i));
            }
            return all;
        }

        private static boolean isPlace(int place) {
            return place >= 0 && place < PLACES;
        }
    }

    /**
     * Follows a RULE through all rows of DEMANDS at once, day by day.
     * A place of the spread is a stock (what is in hand and comes today from earlier ORDERS, before
     * anything is thrown away: the POSITION still counts it) and what comes tomorrow.
     */
    private static final class Walk {
        static final int STOCKS = 2 * PIECES - LOWEST + 1;

        private final Shop shop;
        private final Spread spread;
        private final int[] orders = new int[POSITIONS];
        private final boolean[] reached = new boolean[POSITIONS];
        private boolean unbroken;
        private long spent;
        long met;
        long eveningsInHand;

        Walk(Shop shop, Spread spread) {
            this.shop = shop;
            this.spread = spread;
        }

        void useRule(Rule rule) {
            for (int i = 0; i < orders.length; i++) {
                orders[i] = cutOrder(rule.wants(i + LOWEST));
            }
        }

        void usePair(int low, int top) {
            for (int i = 0; i < orders.length; i++) {
                orders[i] = cutOrder(Pair.pairWants(low, top, i + LOWEST));
            }
        }

        boolean hasReached(int position) {
            return isPosition(position) && reached[position - LOWEST];
        }

        /**
         * What the days cost over all rows; or, if that can't be below a limit any more, some
         * number that isn't below it either: no day makes the cost less.
         */
        long follow(Book book, int x, int days, long limit) {
            unbroken = false;
            begin(x);
            for (int day = 1; day <= days; day++) {
                passDay(book);
                long atLeast = spent * rowsOf(book, days - day);
                if (atLeast >= limit) {
                    return atLeast;
                }
            }
            return spent;
        }

        /** The weight of all rows on which nothing LACKS. */
        long followUnbroken(Book book, int x, int days) {
            unbroken = true;
            begin(x);
            for (int day = 1; day <= days; day++) {
                passDay(book);
            }
            return spread.weightOfAll();
        }

        private void begin(int x) {
            spent = 0;
            met = 0;
            eveningsInHand = 0;
            for (int i = 0; i < reached.length; i++) {
                reached[i] = false;
            }
            spread.startAt(placeOf(x, 0));
        }

        private void passDay(Book book) {
            int all = book.weightOfAll();
            spent *= all;
            met *= all;
            eveningsInHand *= all;
            for (int i = 0; i < spread.places(); i++) {
                passFrom(spread.placeAt(i), book, all);
            }
            spread.turnToTomorrow();
        }

        private void passFrom(int place, Book book, int all) {
            int stock = place % STOCKS + LOWEST;
            int coming = place / STOCKS;
            int order = orderAt(stock + coming);
            int x = shop.filled(stock, shop.lead == 0 ? order : 0);
            long weight = spread.weightAt(place);
            spent += weight * (all * shop.orderPrice(order) + shop.priceFrom(x));
            met += weight * shop.metFrom(x);
            eveningsInHand += weight * shop.inHandFrom(x);
            int cameSince = shop.lead == 2 ? coming : shop.lead == 1 ? order : 0;
            int nextComing = shop.lead == 2 ? order : 0;
            int mostDemand = unbroken ? Math.min(Math.max(x, 0), DEMANDS - 1) : DEMANDS - 1;
            for (int d = 0; d <= mostDemand; d++) {
                int left = shop.leftOf(x, d);
                spread.add(placeOf(left + cameSince, nextComing), weight * book.weightOf(d));
            }
        }

        private int orderAt(int position) {
            if (!isPosition(position)) {
                return 0;
            }
            reached[position - LOWEST] = true;
            return orders[position - LOWEST];
        }

        private static int placeOf(int stock, int coming) {
            return coming * STOCKS + stock - LOWEST;
        }
    }

    /**
     * THE BEST, from the last day back to the first.
     * Here what is thrown away is forgotten at once: no later choice depends on it.
     */
    private static final class Planner {
        private static final int PLACES = Shop.HANDS * (PIECES + 1);

        private final Shop shop;
        private long[] now = new long[PLACES];
        private long[] later = new long[PLACES];
        private long rows;
        private long laterRows;
        long least;
        int chosen;

        Planner(Shop shop) {
            this.shop = shop;
        }

        void plan(Book book, int x, int days) {
            for (int i = 0; i < later.length; i++) {
                later[i] = 0;
            }
            for (int day = days; day > 1; day--) {
                turnTo(book, days - day);
                planDay(book, usefulOrder(day, days));
            }
            turnTo(book, days - 1);
            choose(book, x, 0, usefulOrder(1, days));
        }

        private void turnTo(Book book, int daysLater) {
            laterRows = rowsOf(book, daysLater);
            rows = rowsOf(book, daysLater + 1);
        }

        /** What would come behind the last day can only cost: then nothing is the least ORDER. */
        private int usefulOrder(int day, int days) {
            return day + shop.lead <= days ? PIECES : 0;
        }

        private void planDay(Book book, int mostOrder) {
            int mostComing = shop.lead == 2 ? PIECES : 0;
            for (int coming = 0; coming <= mostComing; coming++) {
                for (int x = shop.floor(); x <= shop.most; x++) {
                    choose(book, x, coming, mostOrder);
                    int place = placeOf(x, coming);
                    if (place >= 0 && place < now.length) {
                        now[place] = least;
                    }
                }
            }
            long[] planned = now;
            now = later;
            later = planned;
        }

        private void choose(Book book, int x, int coming, int mostOrder) {
            least = priceOf(book, x, coming, 0);
            chosen = 0;
            for (int order = 1; order <= mostOrder; order++) {
                long price = priceOf(book, x, coming, order);
                if (price < least) {
                    least = price;
                    chosen = order;
                }
            }
        }

        private long priceOf(Book book, int hand, int coming, int order) {
            int x = shop.lead == 0 ? shop.filled(hand, order) : hand;
            int cameSince = shop.lead == 2 ? coming : shop.lead == 1 ? order : 0;
            int nextComing = shop.lead == 2 ? order : 0;
            long price = shop.orderPrice(order) * rows + shop.priceFrom(x) * laterRows;
            for (int d = 0; d < DEMANDS; d++) {
                int weight = book.weightOf(d);
                if (weight > 0) {
                    int next = shop.filled(shop.leftOf(x, d), cameSince);
                    price += weight * laterAt(placeOf(next, nextComing));
                }
            }
            return price;
        }

        private long laterAt(int place) {
            return place >= 0 && place < later.length ? later[place] : 0;
        }

        private static int placeOf(int x, int coming) {
            return coming * Shop.HANDS + x - LOWEST;
        }
    }

    /** Pieces by the day they are in; a place of the spread is how many begin their days 2 and 3. */
    private static final class Spoiling {
        private static final int COUNTS = PIECES + 1;

        private final Spread spread;
        private final int[] pieces = new int[LONGEST_AGE];
        private int upTo;
        private int age;
        private boolean newestFirst;
        private long spoiled;

        Spoiling(Spread spread) {
            this.spread = spread;
        }

        void begin(int s, int days, boolean newest) {
            upTo = s;
            age = Math.max(1, Math.min(days, LONGEST_AGE));
            newestFirst = newest;
            spoiled = 0;
            spread.startAt(0);
        }

        long follow(Book book, int days) {
            for (int day = 1; day <= days; day++) {
                spoiled *= book.weightOfAll();
                for (int i = 0; i < spread.places(); i++) {
                    passFrom(spread.placeAt(i), book);
                }
                spread.turnToTomorrow();
            }
            return spoiled;
        }

        private void passFrom(int place, Book book) {
            for (int d = 0; d < DEMANDS; d++) {
                long weight = spread.weightAt(place) * book.weightOf(d);
                if (weight == 0) {
                    continue;
                }
                pieces[1] = place % COUNTS;
                pieces[2] = place / COUNTS;
                pieces[0] = upTo - pieces[1] - pieces[2];
                give(d);
                spoiled += weight * pieces[age - 1];
                int second = age > 1 ? pieces[0] : 0;
                int third = age > 2 ? pieces[1] : 0;
                spread.add(third * COUNTS + second, weight);
            }
        }

        private void give(int demand) {
            int rest = demand;
            for (int i = 0; i < age; i++) {
                int day = newestFirst ? i : age - 1 - i;
                int taken = Math.min(rest, pieces[day]);
                pieces[day] -= taken;
                rest -= taken;
            }
        }
    }
}
