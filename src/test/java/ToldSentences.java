/** Promises 27 to 32: what is told. */
final class ToldSentences {
    private static final int NOTHING = 1, BEYOND = 2, UNLIKE = 3, NOUGHT = 4, SIZE = 5;

    private ToldSentences() {
    }

    static void all(Sentences s) {
        s.promise(27, "The upper number of what a call told last by it", ToldSentences::toldLast);
        s.promise(27, "told last by it", ToldSentences::otherCallsTellNothing);
        s.promise(27, "; 0 before.", due -> due.is("upper()", Made.empty().upper(), 0));
        s.promise(28, "Its lower number", ToldSentences::toldLast);
        s.promise(28, "; 1 before.", due -> due.is("lower()", Made.empty().lower(), 1));

        s.promise(29, "0 RULES ever, 1 those that are there", ToldSentences::rulesCounted);
        s.promise(29, ", 2 how many were SEEN", ToldSentences::seenCounted);
        s.promise(29, ", 3 MOST, 4 LEAD, 5 whether OWED (1, 0).", ToldSentences::shopCounted);
        s.promise(29, "BAD.", due -> due.bounds("count", Made::everything, 0, 5, Counted::count));

        s.promise(30, "The latest FINDING", ToldSentences::latestFinding);
        s.promise(30, "(0 before any).", ToldSentences::noFinding);

        s.promise(31, "How often a FINDING (1 .. 5) was answered.", ToldSentences::howOften);
        s.promise(31, "How often", ToldSentences::veryOften);
        s.promise(31, "BAD.", due -> due.bounds("findings", Made::everything, 1, 5, Counted::findings));

        s.promise(32, "h = 17; then h = 31 h + v for each v: count() 0 to 5", ToldSentences::digestOfCounts);
        s.promise(32, "; k, c, h, b", ToldSentences::digestOfCosts);
        s.promise(32, "; of each BOOK its weights (-1 once: missing)", ToldSentences::digestOfBooks);
        s.promise(32, "; of each RULE told() 0 to 4 (-1 once: missing)", ToldSentences::digestOfRules);
        s.promise(32, "(-1 once: missing)", ToldSentences::digestOfDroppedRules);
        s.promise(32, "; of each SHEET its size (-1: missing), its bytes.", ToldSentences::digestOfSheets);
    }

    private static void toldLast(Due due) {
        Counted x = Made.weighed(0, 1, 0, 3);
        Made.weigh(x, 1, 1, 1);
        x.rule(2, -12, 0);
        x.costs(0, 0, 1, 10);
        x.see(1);
        x.cost(0, 0, 5, 2);
        due.tells("cost", x, 139, 16);
        x.service(1, 0, 0, 5, 2);
        due.tells("service", x, 71, 80);
        x.best(0, 4, 1);
        due.tells("best", x, 3, 2);
        x.bestPair(0, 0, 1);
        due.tells("bestPair", x, 1, 2);
        x.spoilt(0, 2, 1, 1, true);
        due.tells("spoilt", x, 1, 4);
        x.doubt(0, 1, 1, 1);
        due.tells("doubt", x, 1, 3);
        x.service(0, 0, 0, 5, 2);
        due.tells("service again", x, 7, 16);
        due.tells("asked twice", x, 7, 16);
    }

    private static void otherCallsTellNothing(Due due) {
        Counted x = Made.everything();
        x.spoilt(1, 5, 1, 1, true);
        long upper = x.upper();
        long lower = x.lower();
        due.isTrue("a fraction", lower > 1);
        x.book(3);
        x.weigh(3, 1, 2);
        x.mean(3);
        x.copy(3, 0, 0, 0, 7);
        x.close(3);
        x.sheet(3, 1);
        x.lay(3, 0, 1);
        x.table(3);
        x.tear(3);
        x.rule(1, 1, 1);
        x.told(0, 0);
        x.mark(0, 0);
        x.order(0, 0);
        x.drop(0);
        x.shop(1, 2, false);
        x.costs(1, 1, 1, 1);
        x.pairTold(0);
        x.see(1);
        x.forget();
        x.count(0);
        x.finding();
        x.findings(1);
        x.digest();
        x.cost(9, 9, 9, 9);
        x.cost(1, 3, 0, 1);
        due.tells("none of them tells a fraction", x, upper, lower);
    }

    private static void rulesCounted(Due due) {
        Counted x = Made.empty();
        x.sheet(0, 0);
        for (int i = 0; i < 12; i++) {
            due.is("ever", x.count(0), i);
            due.is("there", x.count(1), i);
            due.is("one more", i % 2 == 0 ? x.rule(1, 1, 1) : x.table(0), i);
        }
        for (int i = 0; i < 12; i++) {
            due.is("ever", x.count(0), 12);
            due.is("there", x.count(1), 12 - i);
            x.drop(i);
        }
        due.is("ever", x.count(0), 12);
        due.is("there", x.count(1), 0);
    }

    private static void seenCounted(Due due) {
        Counted x = Made.empty();
        for (int i = 0; i < 6; i++) {
            due.is("SEEN", x.count(2), i);
            x.see(i);
        }
        x.see(0);
        due.is("SEEN", x.count(2), 6);
        x.forget();
        due.is("SEEN", x.count(2), 0);
    }

    private static void shopCounted(Due due) {
        Counted x = Made.empty();
        int[][] shops = {{12, 0, 0}, {1, 2, 1}, {7, 1, 0}, {12, 2, 1}};
        for (int[] of : shops) {
            x.shop(of[0], of[1], of[2] == 1);
            for (int i = 0; i < 3; i++) {
                due.is("count(" + (3 + i) + ")", x.count(3 + i), of[i]);
            }
        }
    }

    /** Makes one FINDING of its kind on an object that has a RULE 0 and a weightless BOOK 0. */
    private static void find(Counted x, int f) {
        switch (f) {
            case NOTHING: x.close(3); break;
            case BEYOND: x.weigh(0, 7, 0); break;
            case UNLIKE: x.mark(0, 3); break;
            case NOUGHT: x.mean(0); break;
            default: x.sheet(0, -1); break;
        }
    }

    private static Counted forFindings() {
        Counted x = Made.empty();
        x.book(0);
        x.rule(1, 1, 1);
        return x;
    }

    private static void latestFinding(Due due) {
        Counted x = forFindings();
        for (int f : new int[] {NOTHING, BEYOND, UNLIKE, NOUGHT, SIZE, NOTHING, NOTHING, SIZE, UNLIKE}) {
            find(x, f);
            due.is("finding()", x.finding(), f);
            x.book(0);
            due.is("after a call that was not refused", x.finding(), f);
            x.book(4);
            due.is("after BAD", x.finding(), f);
        }
        Counted full = Made.fullOfAll();
        full.see(0);
        full.rule(1, 1, 1);
        due.is("after FULL", full.finding(), SIZE);
    }

    private static void noFinding(Due due) {
        Counted x = Made.empty();
        due.is("a new object", x.finding(), 0);
        x.book(0);
        x.book(4);
        x.told(0, 0);
        x.sheet(0, 26);
        for (int i = 0; i < 7; i++) {
            x.see(i % 7);
        }
        due.is("BAD and FULL are none", x.finding(), 0);
        due.is("finding() itself is none", x.finding(), 0);
    }

    private static void howOften(Due due) {
        Counted x = forFindings();
        int[] want = {0, 3, 1, 4, 2, 5};
        for (int f = 1; f <= 5; f++) {
            due.is("before", x.findings(f), 0);
            for (int i = 0; i < want[f]; i++) {
                find(x, f);
            }
        }
        for (int round = 0; round < 2; round++) {
            for (int f = 1; f <= 5; f++) {
                due.is("findings(" + f + ")", x.findings(f), want[f]);
            }
            x.book(9);
            x.findings(0);
            x.findings(6);
        }
    }

    private static void veryOften(Due due) {
        for (int f = 1; f <= 5; f++) {
            Counted x = forFindings();
            int n = x.callsLeft() - 2;
            for (int i = 0; i < n; i++) {
                find(x, f);
            }
            due.is("findings(" + f + ")", x.findings(f), n);
            due.is("finding(), the 512th call", x.finding(), f);
        }
    }

    private static long fold(long from, int... values) {
        long h = from;
        for (int v : values) {
            h = 31 * h + v;
        }
        return h;
    }

    private static final int[] NO_BOOKS = {-1, -1, -1, -1}, NO_SHEETS = {-1, -1, -1, -1};
    private static final int[] COUNTS_AT_FIRST = {0, 0, 0, 12, 0, 0}, COSTS_AT_FIRST = {10, 1, 1, 5};

    static long digestAtFirst() {
        return digestByCosts(COSTS_AT_FIRST);
    }

    static long digestByCosts(int... costs) {
        return fold(fold(fold(fold(17, COUNTS_AT_FIRST), costs), NO_BOOKS), NO_SHEETS);
    }

    private static void digestOfCounts(Due due) {
        due.is("a new object", Made.empty().digest(), digestAtFirst());
        Counted x = Made.empty();
        x.see(3);
        x.see(4);
        x.shop(5, 2, true);
        due.is("SEEN, MOST, LEAD, OWED", x.digest(),
            fold(fold(fold(fold(17, 0, 0, 2, 5, 2, 1), COSTS_AT_FIRST), NO_BOOKS), NO_SHEETS));
        x.rule(1, 4, 0);
        x.rule(1, 4, 0);
        x.drop(0);
        due.is("RULES ever, those that are there", x.digest(), fold(fold(fold(fold(fold(17, 2, 1, 2, 5, 2, 1),
            COSTS_AT_FIRST), NO_BOOKS), -1, 1, 4, -9, -9, -9), NO_SHEETS));
    }

    private static void digestOfCosts(Due due) {
        Counted x = Made.empty();
        x.costs(0, 100, 7, 8);
        due.is("k, c, h, b", x.digest(), digestByCosts(0, 100, 7, 8));
    }

    private static void digestOfBooks(Due due) {
        long before = fold(fold(17, COUNTS_AT_FIRST), COSTS_AT_FIRST);
        Counted x = Made.empty();
        Made.weigh(x, 1, 9, 1, 2, 3, 4, 5, 8);
        x.book(3);
        due.is("weights", x.digest(), fold(fold(before, -1, 9, 1, 2, 3, 4, 5, 8, -1, 0, 0, 0, 0, 0, 0, 0), NO_SHEETS));
        x.close(1);
        x.book(0);
        due.is("a closed one", x.digest(),
            fold(fold(before, 0, 0, 0, 0, 0, 0, 0, -1, -1, 0, 0, 0, 0, 0, 0, 0), NO_SHEETS));
    }

    private static void digestOfRules(Due due) {
        Counted x = Made.ofAllKinds();
        x.tear(0);
        long before = fold(fold(fold(17, 5, 4, 0, 12, 0, 0), COSTS_AT_FIRST), NO_BOOKS);
        due.is("all KINDS, and a dropped one", x.digest(), fold(fold(before, 0, -9, -9, -9, 4, 1, 7, -9, -9, -9,
            2, 8, -3, -9, -9, 3, -9, 4, 2, -9, -1), NO_SHEETS));
    }

    private static void digestOfDroppedRules(Due due) {
        Counted x = Made.empty();
        for (int rule = 0; rule < 12; rule++) {
            x.rule(1, rule, 0);
        }
        for (int dropped = 0; dropped < 12; dropped++) {
            x.drop(dropped);
            long want = fold(fold(fold(17, 12, 11 - dropped, 0, 12, 0, 0), COSTS_AT_FIRST), NO_BOOKS);
            for (int rule = 0; rule < 12; rule++) {
                want = rule <= dropped ? fold(want, -1) : fold(want, 1, rule, -9, -9, -9);
            }
            due.is("RULES 0 to " + dropped + " are missing", x.digest(), fold(want, NO_SHEETS));
        }
    }

    private static void digestOfSheets(Due due) {
        long before = fold(fold(fold(17, COUNTS_AT_FIRST), COSTS_AT_FIRST), NO_BOOKS);
        Counted x = Made.empty();
        x.sheet(0, 0);
        x.sheet(2, 3);
        x.lay(2, 0, -7);
        x.lay(2, 2, 200);
        due.is("sizes and bytes", x.digest(), fold(before, 0, -1, 3, -7, 0, -56, -1));
        x.sheet(3, 25);
        x.lay(3, 24, 127);
        x.tear(2);
        int[] last = new int[25];
        last[24] = 127;
        due.is("a torn one, and one of 25", x.digest(), fold(fold(before, 0, -1, -1, 25), last));
    }
}
