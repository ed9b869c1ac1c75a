/** Promises 18 to 22, and what the terms say of MEAN COST, SERVICE, THE BEST and THE BEST PAIR. */
final class ReckonedSentences {
    private static final int NOTHING = 1, NOUGHT = 4;
    private static final int NONE = SendForMore.NONE;

    private ReckonedSentences() {
    }

    static void all(Sentences s) {
        s.terms("MEAN COST of a RULE by a BOOK", ReckonedSentences::byRuleAndBook);
        s.terms("of a RULE by a BOOK", ReckonedSentences::byEachRule);
        s.terms("of a RULE by a BOOK", ReckonedSentences::byEachBook);
        s.terms(", over T days (1 .. 6)", ReckonedSentences::days);
        s.terms("from x (0 .. MOST", ReckonedSentences::fromWhenLost);
        s.terms("; if OWED: -12 .. MOST)", ReckonedSentences::fromWhenOwed);
        s.terms(", nothing under way", ReckonedSentences::nothingUnderWay);
        s.terms(": over all rows of T DEMANDS by their chances.", ReckonedSentences::allRows);
        s.terms("SERVICE: 0 the chance that nothing LACKS on any day", ReckonedSentences::serviceOfAllDays);
        s.terms("; 1 all that is MET by all DEMANDS, on the mean each", ReckonedSentences::serviceOfPieces);
        s.terms("(both 0: 0 by 1)", ReckonedSentences::nobodyAsks);
        s.terms("; 2 the chance that x is above 0 in the evening, the mean of days.", ReckonedSentences::serviceOfEvenings);
        s.terms("THE BEST: the least MEAN COST there can be", ReckonedSentences::theLeast);
        s.terms(", if on each day any ORDER (0 .. 12) may be given", ReckonedSentences::anyOrder);
        s.terms("THE BEST: the least MEAN COST there can be", ReckonedSentences::bestsAtTheFloor);
        s.terms("THE BEST: the least MEAN COST there can be", ReckonedSentences::bestsAtTheCeiling);
        s.terms(", by all that is known then.", ReckonedSentences::byAllThatIsKnown);
        s.terms("THE BEST PAIR: of all PAIRS with S at most MOST", ReckonedSentences::topAtMostMost);
        s.terms("that with the least MEAN COST (from x)", ReckonedSentences::leastPairFromThere);
        s.terms("; of alike ones the least S", ReckonedSentences::pairOfLeastTop);
        s.terms(", then the least s.", ReckonedSentences::pairOfLeastLow);

        s.promise(18, "MEAN COST, told by upper(), lower(): 1.", ReckonedSentences::allRows);
        s.promise(18, "MEAN COST", ReckonedSentences::largestNumbers);
        s.promise(18, "BAD", ReckonedSentences::costBad);
        s.promise(18, "NOTHING: the RULE", due ->
            due.finds("a dropped one", Made::everything, NOTHING, x -> x.cost(4, 0, 0, 1)));
        s.promise(18, ", the BOOK", due ->
            due.finds("a missing one", Made::everything, NOTHING, x -> x.cost(1, 3, 0, 1)));
        s.promise(18, "NOTHING", ReckonedSentences::costNothingFirst);
        s.promise(18, "NOUGHT.", due -> due.finds("of 0", Made::everything, NOUGHT, x -> x.cost(1, 2, 0, 1)));

        s.promise(19, "SERVICE of a kind (0 .. 2)", ReckonedSentences::kinds);
        s.promise(19, ", told by upper(), lower(): 1.", ReckonedSentences::serviceOfPieces);
        s.promise(19, "BAD", ReckonedSentences::serviceBad);
        s.promise(19, "NOTHING", ReckonedSentences::serviceNothing);
        s.promise(19, "NOUGHT.", ReckonedSentences::serviceNought);

        s.promise(20, "THE BEST, told by upper(), lower(): the ORDER that it gives on the first day",
            ReckonedSentences::theLeast);
        s.promise(20, "(the least of alike ones).", ReckonedSentences::leastOfAlikeOrders);
        s.promise(20, "the ORDER that it gives on the first day", ReckonedSentences::tooLateToOrder);
        s.promise(20, "THE BEST, told by upper(), lower()", ReckonedSentences::nothingStaysOfABest);
        s.promise(20, "BAD", due -> startBad(due, Counted::best));
        s.promise(20, "NOTHING", due -> due.finds("best", Made::everything, NOTHING, x -> x.best(3, 0, 1)));
        s.promise(20, "NOUGHT.", due -> due.finds("best", Made::everything, NOUGHT, x -> x.best(2, 0, 1)));

        s.promise(21, "THE BEST PAIR; its MEAN COST told by upper(), lower(): 1.", ReckonedSentences::pairAndItsCost);
        s.promise(21, "THE BEST PAIR", ReckonedSentences::noRuleIsMade);
        s.promise(21, "THE BEST PAIR; its MEAN COST", ReckonedSentences::pairBesideAllElse);
        s.promise(21, "BAD", due -> startBad(due, Counted::bestPair));
        s.promise(21, "NOTHING", due -> due.finds("bestPair", Made::everything, NOTHING, x -> x.bestPair(3, 0, 1)));
        s.promise(21, "NOUGHT.", due -> due.finds("bestPair", Made::everything, NOUGHT, x -> x.bestPair(2, 0, 1)));

        s.promise(22, "Of THE BEST PAIR of the latest bestPair()", ReckonedSentences::latestPair);
        s.promise(22, "that was not refused", ReckonedSentences::pairAfterRefused);
        s.promise(22, ": s (what = 0), S (1)", ReckonedSentences::pairLowAndTop);
        s.promise(22, "; NONE: there was none.", ReckonedSentences::noPair);
        s.promise(22, "BAD.", ReckonedSentences::pairToldBad);
    }

    private interface FromStart {
        int ask(Counted x, int book, int at, int days);
    }

    private static void costIs(Due due, String what, Counted x, int at, int days, long upper, long lower) {
        ShopSentences.costIs(due, what, x, at, days, upper, lower);
    }

    private static void serviceIs(Due due, String what, Counted x, int kind, int at, int days, long... told) {
        due.is(what, x.service(kind, 0, 0, at, days), 1);
        due.tells(what, x, told[0], told[1]);
    }

    private static void bestIs(Due due, String what, Counted x, int at, int days, int order, long cost) {
        due.is(what, x.best(0, at, days), order);
        due.tells(what, x, cost, 1);
    }

    private static void pairIs(Due due, String what, Counted x, int at, int days, int low, int top) {
        due.is(what, x.bestPair(0, at, days), 1);
        due.is(what + ", s", x.pairTold(0), low);
        due.is(what + ", S", x.pairTold(1), top);
    }

    /** DEMAND 1, or thrice as often 3; RULE 0 never ORDERS; just what is left and what LACKS costs. */
    private static Counted oneOrThree() {
        Counted x = Made.weighed(0, 1, 0, 3);
        x.rule(2, -12, 0);
        x.costs(0, 0, 1, 10);
        return x;
    }

    private static void byRuleAndBook(Due due) {
        Counted x = Made.everything();
        x.shop(12, 0, false);
        x.costs(0, 1, 0, 0);
        int[][] rows = {{1, 0, 7}, {2, 0, 0}, {3, 0, 2}};
        for (int[] row : rows) {
            due.is("cost of RULE " + row[0], x.cost(row[0], row[1], 0, 1), 1);
            due.tells("cost of RULE " + row[0], x, row[2], 1);
        }
        x.costs(0, 0, 0, 1);
        due.is("by BOOK 0", x.cost(2, 0, 0, 1), 1);
        due.tells("by BOOK 0: 2 and 9 and 24 by 10", x, 7, 2);
        due.is("by BOOK 1", x.cost(2, 1, 0, 1), 1);
        due.tells("by BOOK 1: 1 and 2 and 25 and 6 by 10", x, 17, 5);
    }

    private static void byEachRule(Due due) {
        Counted x = Made.always(6);
        for (int rule = 0; rule < 12; rule++) {
            x.rule(1, 11 - rule, 0);
        }
        x.costs(0, 1, 0, 0);
        for (int rule = 0; rule < 12; rule++) {
            int top = 11 - rule;
            due.is("cost of RULE " + rule, x.cost(rule, 0, 0, 1), 1);
            due.tells("cost of RULE " + rule, x, top, 1);
            due.is("service of RULE " + rule, x.service(1, rule, 0, 0, 1), 1);
            due.is("MET of 6 by RULE " + rule, 6 * x.upper(), Math.min(top, 6) * x.lower());
        }
    }

    private static void byEachBook(Due due) {
        for (int book = 0; book < 4; book++) {
            Counted x = Made.empty();
            for (int b = 0; b < 4; b++) {
                x.book(b);
                x.weigh(b, b == book ? 2 : 6, 9);
            }
            x.rule(2, -12, 0);
            x.costs(1, 0, 0, 1);
            due.is("cost", x.cost(0, book, 0, 6), 1);
            due.tells("cost by BOOK " + book, x, 12, 1);
            due.is("service", x.service(1, 0, book, 1, 1), 1);
            due.tells("service by BOOK " + book, x, 1, 2);
            due.is("best", x.best(book, 0, 6), 12);
            due.tells("best by BOOK " + book, x, 1, 1);
            due.is("bestPair", x.bestPair(book, 0, 5), 1);
            due.tells("bestPair by BOOK " + book, x, 1, 1);
            due.is("S", x.pairTold(1), 10);
            due.is("spoilt", x.spoilt(book, 12, 1, 1, true), 1);
            due.tells("spoilt by BOOK " + book, x, 10, 1);
        }
    }

    private static void days(Due due) {
        Counted x = oneOrThree();
        for (int days = 1; days <= 6; days++) {
            costIs(due, "100 by 4 on each of " + days, x, 0, days, 25L * days, 1);
            serviceIs(due, "1 do for the first alone of " + days, x, 0, 1, days, days == 1 ? 1 : 0, days == 1 ? 4 : 1);
        }
        due.bad("no day", Made::everything, y -> y.cost(1, 0, 0, 0));
        due.bad("seven days", Made::everything, y -> y.cost(1, 0, 0, 7));
    }

    private static Counted lost() {
        Counted x = Made.everything();
        x.shop(5, 2, false);
        return x;
    }

    private static void fromWhenLost(Due due) {
        due.bounds("cost", ReckonedSentences::lost, 0, 5, (x, at) -> x.cost(1, 0, at, 2));
        due.bounds("service", ReckonedSentences::lost, 0, 5, (x, at) -> x.service(2, 1, 0, at, 2));
        due.bounds("best", ReckonedSentences::lost, 0, 5, (x, at) -> x.best(0, at, 2));
        due.bounds("bestPair", ReckonedSentences::lost, 0, 5, (x, at) -> x.bestPair(0, at, 2));
        due.bad("-12 is for OWED alone", ReckonedSentences::lost, x -> x.cost(1, 0, -12, 2));
    }

    private static void fromWhenOwed(Due due) {
        due.bounds("cost", Made::everything, -12, 7, (x, at) -> x.cost(1, 0, at, 2));
        due.bounds("service", Made::everything, -12, 7, (x, at) -> x.service(1, 1, 0, at, 2));
        due.bounds("best", Made::everything, -12, 7, (x, at) -> x.best(0, at, 2));
        due.bounds("bestPair", Made::everything, -12, 7, (x, at) -> x.bestPair(0, at, 2));
    }

    private static void nothingUnderWay(Due due) {
        Counted x = Made.always(0);
        x.rule(1, 5, 0);
        x.costs(0, 1, 0, 0);
        for (int lead = 0; lead <= 2; lead++) {
            x.shop(12, lead, false);
            costIs(due, "all 5 are sent for, LEAD " + lead, x, 0, 1, 5, 1);
            costIs(due, "and again: no call leaves anything under way", x, 0, 1, 5, 1);
            costIs(due, "and again, over six days", x, 0, 6, 5, 1);
        }
        x.costs(0, 0, 1, 0);
        x.shop(12, 2, false);
        costIs(due, "none comes on the first two days", x, 0, 2, 0, 1);
    }

    private static void allRows(Due due) {
        // 1, 1: 4 and 3; 1, 3: 4 and 1; 3, 1: 2 and 1; 3, 3: 2 and, as 1 LACKS, 10.
        costIs(due, "5 in hand, two days", oneOrThree(), 5, 2, 7 + 3 * 5 + 3 * 3 + 9 * 12, 16);
        costIs(due, "5 in hand, a day", oneOrThree(), 5, 1, 5, 2);
    }

    private static void largestNumbers(Due due) {
        Counted x = Made.weighed(9, 9, 9, 9, 9, 9, 7);
        x.costs(100, 100, 100, 100);
        x.rule(3, 12, 12);
        // Each day 100, 12 pieces at 100 and 100 for each of 12 less DEMAND; the mean DEMAND is 177 by 61.
        costIs(due, "six of the dearest days", x, 12, 6, 6 * (2500L * 61 - 100 * 177), 61);
        x.rule(1, 5, 0);
        due.is("service", x.service(0, 1, 0, 5, 6), 1);
        due.tells("54 by 61, six times", x, 24794911296L, 51520374361L);
        due.is("service", x.service(2, 1, 0, 5, 6), 1);
        due.tells("in 45 of 61 evenings", x, 45, 61);
    }

    private static void startBad(Due due, FromStart call) {
        due.bounds("book", Made::everything, 0, 3, (x, book) -> call.ask(x, book, 0, 1));
        due.bounds("x", Made::everything, -12, 7, (x, at) -> call.ask(x, 0, at, 1));
        due.bounds("days", Made::everything, 1, 6, (x, days) -> call.ask(x, 0, 0, days));
        due.bounds("x by a missing BOOK", Made::everything, -12, 7, (x, at) -> call.ask(x, 3, at, 1));
        due.bounds("days by a missing BOOK", Made::everything, 1, 6, (x, days) -> call.ask(x, 3, 0, days));
        due.bounds("x by a BOOK of 0", Made::everything, -12, 7, (x, at) -> call.ask(x, 2, at, 1));
        due.bounds("x, LOST", ReckonedSentences::lost, 0, 5, (x, at) -> call.ask(x, 0, at, 1));
    }

    private static void costBad(Due due) {
        startBad(due, (x, book, at, days) -> x.cost(1, book, at, days));
        startBad(due, (x, book, at, days) -> x.cost(4, book, at, days));
        due.bounds("rule", Made::everything, 0, 4, (x, rule) -> x.cost(rule, 0, 0, 1));
        due.bounds("rule by a missing BOOK", Made::everything, 0, 4, (x, rule) -> x.cost(rule, 3, 0, 1));
        due.bad("before any RULE", () -> Made.always(1), x -> x.cost(0, 0, 0, 1));
    }

    private static void costNothingFirst(Due due) {
        due.finds("both are missing", Made::everything, NOTHING, x -> x.cost(4, 3, 0, 1));
        due.finds("a dropped one goes ahead of NOUGHT", Made::everything, NOTHING, x -> x.cost(4, 2, 0, 1));
    }

    private static void kinds(Due due) {
        due.bounds("kind", Made::everything, 0, 2, (x, kind) -> x.service(kind, 1, 0, 0, 1));
        due.bounds("kind of a dropped RULE", Made::everything, 0, 2, (x, kind) -> x.service(kind, 4, 0, 0, 1));
        Counted x = oneOrThree();
        serviceIs(due, "nothing LACKS", x, 0, 2, 1, 1, 4);
        serviceIs(due, "7 of 10 are MET", x, 1, 2, 1, 7, 10);
        serviceIs(due, "3 in hand: some are left once of four", x, 2, 3, 1, 1, 4);
    }

    private static void serviceOfAllDays(Due due) {
        Counted x = oneOrThree();
        serviceIs(due, "but for 3, 3", x, 0, 5, 2, 7, 16);
        serviceIs(due, "6 do for 3, 3", x, 0, 6, 2, 1, 1);
        serviceIs(due, "2 do for 1, 1 alone", x, 0, 2, 2, 1, 16);
        serviceIs(due, "none in hand", x, 0, 0, 6, 0, 1);
        x.weigh(0, 0, 4);
        serviceIs(due, "none in hand, and nobody asks", x, 0, 0, 6, 1, 64);
        x.shop(12, 0, true);
        serviceIs(due, "3 are OWED, and nobody asks", x, 0, -3, 6, 1, 64);
    }

    private static void serviceOfPieces(Due due) {
        Counted x = oneOrThree();
        serviceIs(due, "2, 4, 4, 5 of 2, 4, 4, 6", x, 1, 5, 2, 2 + 3 * 4 + 3 * 4 + 9 * 5, 80);
        serviceIs(due, "all", x, 1, 6, 2, 1, 1);
        serviceIs(due, "none", x, 1, 0, 6, 0, 1);
        serviceIs(due, "4 of 20 by 2", x, 1, 4, 4, 2, 5);
        serviceIs(due, "4 of 25 by 2", x, 1, 4, 5, 8, 25);
        serviceIs(due, "4 of 30 by 2", x, 1, 4, 6, 4, 15);
        serviceIs(due, "not the mean of 1 and 2 by 3", x, 1, 2, 1, 7, 10);
        x.shop(12, 0, true);
        serviceIs(due, "what is OWED is not MET", x, 1, -1, 6, 0, 1);
    }

    private static void nobodyAsks(Due due) {
        Counted x = Made.always(0);
        Made.weigh(x, 1, 1, 1);
        x.rule(1, 5, 0);
        x.doubt(0, 1, 2, 3);
        due.tells("something else", x, 2, 5);
        for (int days = 1; days <= 6; days++) {
            serviceIs(due, "nobody asks", x, 1, 5, days, 0, 1);
        }
        serviceIs(due, "nothing LACKS", x, 0, 0, 6, 1, 1);
    }

    private static void serviceOfEvenings(Due due) {
        Counted x = oneOrThree();
        serviceIs(due, "all, and 7 of 16", x, 2, 5, 2, 23, 32);
        serviceIs(due, "1 is above 0", x, 2, 2, 1, 1, 4);
        serviceIs(due, "0 is not above 0", x, 2, 1, 1, 0, 1);
        serviceIs(due, "none at all", x, 2, 0, 6, 0, 1);
        x.shop(12, 0, true);
        serviceIs(due, "OWED is not above 0", x, 2, -1, 6, 0, 1);
        x.shop(12, 0, false);
        serviceIs(due, "1 of 4 by six days", x, 2, 2, 6, 1, 24);
        x.weigh(0, 0, 9);
        x.weigh(0, 1, 0);
        x.weigh(0, 3, 0);
        serviceIs(due, "nobody asks", x, 2, 1, 6, 1, 1);
    }

    private static void theLeast(Due due) {
        Counted x = Made.always(3);
        x.costs(5, 0, 1, 10);
        bestIs(due, "3 just do", x, 0, 1, 3, 5);
        bestIs(due, "6 at once are dearer by 3 and spare 5", x, 0, 2, 6, 8);
        bestIs(due, "none is sent for in vain", x, 3, 1, 0, 0);
        bestIs(due, "1 is enough beside 2", x, 2, 1, 1, 5);
        x.costs(5, 9, 1, 10);
        bestIs(due, "an ORDER is dearer than to lack", x, 0, 1, 0, 30);
        x.costs(5, 9, 1, 11);
        bestIs(due, "3 pieces spare 1", x, 0, 1, 3, 32);
        x.costs(100, 100, 100, 100);
        bestIs(due, "six days at 100", x, 0, 6, 0, 1800);
        due.is("best needs no RULE", x.count(0), 0);
    }

    /** What a call has reckoned is nothing that the next one finds. */
    private static void nothingStaysOfABest(Due due) {
        Counted x = Made.always(6);
        x.costs(0, 0, 1, 1);
        for (int lead = 0; lead <= 2; lead++) {
            x.shop(12, lead, true);
            for (int round = 0; round < 2; round++) {
                bestIs(due, "nothing can be met, LEAD " + lead, x, -12, 1, 0, 6);
                bestIs(due, "nothing is left", x, 6, 1, 0, 0);
                bestIs(due, "all is left", x, 12, 1, 0, 6);
                due.isTrue("six days", x.best(0, -12, 6) >= 0);
            }
        }
    }

    private static void anyOrder(Due due) {
        Counted x = Made.always(6);
        x.costs(0, 0, 0, 1);
        x.shop(12, 0, true);
        bestIs(due, "18 would do, 12 do not", x, -12, 1, 0, 6);
        bestIs(due, "17 would do, 12 give 1", x, -11, 1, 12, 5);
        bestIs(due, "12 today, 12 tomorrow", x, -12, 2, 12, 6);
        bestIs(due, "12 just do", x, -6, 1, 12, 0);
        bestIs(due, "11 just do", x, -5, 1, 11, 0);
        x.shop(6, 0, true);
        bestIs(due, "MOST is no bound of an ORDER", x, -6, 1, 12, 0);
        x.shop(1, 0, false);
        bestIs(due, "MOST keeps it lowest", x, 0, 1, 1, 5);
        x.shop(2, 0, false);
        bestIs(due, "MOST keeps it low", x, 0, 1, 2, 4);
        x.shop(2, 1, false);
        bestIs(due, "MOST keeps it low, a day later", x, 0, 2, 2, 10);
        x.shop(2, 2, false);
        bestIs(due, "MOST keeps it low, two days later", x, 0, 3, 2, 16);
    }

    /** Where -12 is the least, 12 that come on the second day and 12 on the third just do. */
    private static void bestsAtTheFloor(Due due) {
        Counted x = Made.always(6);
        x.costs(0, 0, 0, 1);
        x.shop(12, 1, true);
        bestIs(due, "6 lack on two days", x, -12, 3, 12, 12);
        pairIs(due, "6 lack on two days", x, -12, 3, 0, 12);
        due.tells("6 lack on two days", x, 12, 1);
        x.shop(12, 1, false);
        bestIs(due, "LOST: 6 lack on one", x, 0, 3, 6, 6);
        pairIs(due, "LOST: 6 lack on one", x, 0, 3, 0, 12);
        due.tells("LOST: 6 lack on one", x, 6, 1);
    }

    /** 3 are in hand, nobody or 3 are asked for: 3 more are sent for, and thrown away if nobody asked. */
    private static void bestsAtTheCeiling(Due due) {
        Counted x = Made.weighed(1, 0, 0, 1);
        x.costs(0, 1, 1, 10);
        x.shop(3, 1, false);
        bestIs(due, "3, and 3 by 2 are left on either day", x, 3, 2, 3, 6);
        x.shop(3, 2, false);
        due.is("LEAD 2", x.best(0, 3, 3), 3);
        // 3 pieces; 3 by 2 left; then 3 by 2 left, or 30 by 2 for what lacks; and 3 by 2 left again.
        due.tells("LEAD 2", x, 57, 4);
    }

    private static void byAllThatIsKnown(Due due) {
        Counted x = Made.weighed(1, 0, 0, 0, 0, 0, 1);
        x.costs(4, 0, 1, 10);
        // 3 for what is left on the first day; then 6 are in hand (3 more), or 6 are sent for (4 and 3 more).
        bestIs(due, "the second ORDER knows the first DEMAND", x, 6, 2, 0, 8);
        Counted late = Made.always(3);
        late.costs(1, 0, 1, 10);
        late.shop(12, 2, false);
        bestIs(due, "what is under way is known: 3 on each of two days", late, 6, 4, 3, 5);
    }

    private static void leastOfAlikeOrders(Due due) {
        Counted x = Made.always(3);
        x.costs(0, 0, 0, 0);
        bestIs(due, "all alike", x, 0, 6, 0, 0);
        x.costs(0, 0, 0, 1);
        bestIs(due, "all that meet 3", x, 0, 1, 3, 0);
        bestIs(due, "all that meet 3 today", x, 0, 6, 3, 0);
        bestIs(due, "none needs to come", x, 12, 4, 0, 0);
        x.shop(12, 1, false);
        bestIs(due, "all that meet 3 tomorrow", x, 0, 2, 3, 3);
        x.costs(3, 0, 0, 1);
        x.shop(12, 0, false);
        bestIs(due, "to lack is as dear as an ORDER", x, 0, 1, 0, 3);
    }

    private static void tooLateToOrder(Due due) {
        Counted x = Made.always(3);
        x.costs(0, 0, 0, 1);
        for (int lead = 0; lead <= 2; lead++) {
            x.shop(12, lead, false);
            for (int days = 1; days <= 4; days++) {
                int inTime = days - lead;
                bestIs(due, "LEAD " + lead + " over " + days, x, 0, days, inTime > 0 ? 3 : 0, 3L * Math.min(days, lead));
            }
        }
    }

    private static void topAtMostMost(Due due) {
        Counted x = Made.always(3);
        x.costs(0, 0, 0, 1);
        for (int most = 1; most <= 12; most++) {
            x.shop(most, 0, false);
            pairIs(due, "MOST " + most, x, 0, 6, 0, Math.min(most, 3));
            due.tells("MOST " + most, x, 6L * Math.max(0, 3 - most), 1);
        }
        Counted six = Made.always(6);
        six.costs(1, 0, 0, 100);
        pairIs(due, "S 12 lasts for two days", six, 0, 2, 0, 12);
        six.shop(11, 0, false);
        pairIs(due, "S 11 does not", six, 0, 2, 0, 6);
        x.shop(3, 1, false);
        pairIs(due, "S 6 would send for 3 while 3 are in hand", x, 3, 2, -12, 0);
        due.tells("S 6 is above MOST", x, 3, 1);
        x.shop(6, 1, false);
        pairIs(due, "S 6 sends for 3 while 3 are in hand", x, 3, 2, 3, 6);
        due.tells("S 6 is not above MOST", x, 0, 1);
    }

    private static void leastPairFromThere(Due due) {
        Counted x = Made.always(3);
        x.costs(5, 0, 1, 10);
        pairIs(due, "6 at once", x, 0, 2, 0, 6);
        due.tells("6 at once", x, 8, 1);
        pairIs(due, "from 6 none is sent for", x, 6, 2, -12, 0);
        due.tells("from 6", x, 3, 1);
        pairIs(due, "from 3 on the second day", x, 3, 2, 0, 3);
        due.tells("from 3", x, 5, 1);
        x.shop(4, 0, false);
        pairIs(due, "MOST 4: 3 on each day", x, 0, 2, 0, 3);
        due.tells("MOST 4", x, 10, 1);
        x.weigh(0, 3, 1);
        x.costs(2, 0, 0, 1);
        pairIs(due, "to meet 3 spares just 1", x, 0, 1, 0, 3);
        due.tells("to meet 3 spares just 1", x, 2, 1);
        Counted six = Made.always(6);
        six.costs(0, 0, 0, 1);
        six.shop(12, 0, true);
        pairIs(due, "12 on each of two days", six, -12, 2, -6, 6);
        due.tells("12 on each of two days", six, 6, 1);
    }

    private static void pairOfLeastTop(Due due) {
        Counted x = Made.always(3);
        x.costs(0, 0, 0, 0);
        pairIs(due, "all alike", x, 4, 6, -12, 0);
        x.costs(0, 0, 0, 1);
        pairIs(due, "any that meets 3 each day", x, 0, 6, 0, 3);
        pairIs(due, "any that meets what 12 do not", x, 12, 5, 0, 3);
        x.shop(12, 0, true);
        pairIs(due, "nothing can be met", x, -12, 1, -12, 0);
    }

    private static void pairOfLeastLow(Due due) {
        Counted x = Made.always(3);
        x.costs(0, 0, 0, 1);
        x.shop(12, 0, true);
        for (int at = -9; at < 3; at++) {
            pairIs(due, "s is no lower than where it begins, " + at, x, at, 1, at, 3);
        }
        pairIs(due, "from -12, 12 are sent for and none is left", x, -12, 1, -12, 0);
        x.shop(1, 0, true);
        pairIs(due, "S 1 alone meets one of them", x, -2, 1, -2, 1);
    }

    private static void pairAndItsCost(Due due) {
        Counted x = oneOrThree();
        due.is("bestPair", x.bestPair(0, 0, 1), 1);
        due.tells("3 are sent for, 2 are left once of four", x, 1, 2);
        due.is("S", x.pairTold(1), 3);
        due.is("s", x.pairTold(0), 0);
        due.is("a RULE like it", x.rule(2, 0, 3), 1);
        x.costs(1, 2, 3, 50);
        x.bestPair(0, 2, 6);
        long upper = x.upper();
        long lower = x.lower();
        x.rule(2, x.pairTold(0), x.pairTold(1));
        due.is("cost of the PAIR as a RULE", x.cost(2, 0, 2, 6), 1);
        due.tells("the same", x, upper, lower);
    }

    private static void noRuleIsMade(Due due) {
        Counted x = oneOrThree();
        x.bestPair(0, 0, 6);
        due.is("RULES ever", x.count(0), 1);
        due.is("RULES there", x.count(1), 1);
        Counted full = Made.fullOfAll();
        due.is("though RULES are FULL", full.bestPair(0, 0, 2), 1);
        due.is("RULES ever", full.count(0), 12);
    }

    /** A full object that has found a PAIR before finds the same one as a new object does. */
    private static void pairBesideAllElse(Due due) {
        for (int lead = 0; lead <= 2; lead++) {
            Counted x = Made.empty();
            Counted full = Made.fullOfAll();
            for (Counted each : new Counted[] {x, full}) {
                Made.weigh(each, 3, 9, 9, 9, 9, 9, 9, 7);
                each.shop(12, lead, true);
                each.costs(30, 2, 1, 20);
                due.is("bestPair", each.bestPair(3, -12, 6), 1);
            }
            due.tells("its MEAN COST", full, x.upper(), x.lower());
            due.is("s", full.pairTold(0), x.pairTold(0));
            due.is("S", full.pairTold(1), x.pairTold(1));
        }
    }

    private static void latestPair(Due due) {
        Counted x = Made.always(3);
        x.costs(0, 0, 0, 1);
        pairIs(due, "the first", x, 0, 6, 0, 3);
        pairIs(due, "the second", x, 12, 4, -12, 0);
        pairIs(due, "the third", x, 1, 1, 1, 3);
        x.best(0, 0, 6);
        x.rule(2, -7, 7);
        x.cost(0, 0, 0, 1);
        x.shop(2, 1, true);
        x.costs(9, 9, 9, 9);
        x.close(0);
        due.is("s stays", x.pairTold(0), 1);
        due.is("S stays", x.pairTold(1), 3);
    }

    private static void pairAfterRefused(Due due) {
        Counted x = Made.always(3);
        x.costs(0, 0, 0, 1);
        x.book(1);
        due.is("refused as BAD", x.bestPair(0, 0, 7), SendForMore.BAD);
        due.is("refused as NOTHING", x.bestPair(2, 0, 1), SendForMore.FINDING);
        due.is("refused as NOUGHT", x.bestPair(1, 0, 1), SendForMore.FINDING);
        due.is("none still", x.pairTold(0), NONE);
        due.is("none still", x.pairTold(1), NONE);
        pairIs(due, "one", x, 0, 6, 0, 3);
        x.bestPair(0, 13, 1);
        x.bestPair(2, 12, 1);
        x.bestPair(1, 12, 1);
        due.is("s is the one's still", x.pairTold(0), 0);
        due.is("S is the one's still", x.pairTold(1), 3);
    }

    private static void pairLowAndTop(Due due) {
        Counted x = Made.always(3);
        x.costs(0, 0, 0, 1);
        x.shop(12, 0, true);
        x.bestPair(0, -7, 1);
        due.is("s", x.pairTold(0), -7);
        due.is("S", x.pairTold(1), 3);
        x.bestPair(0, -9, 1);
        due.is("s -9, though that is NONE's number", x.pairTold(0), -9);
        due.is("S", x.pairTold(1), 3);
    }

    private static void noPair(Due due) {
        Counted x = Made.always(3);
        due.is("s", x.pairTold(0), NONE);
        due.is("S", x.pairTold(1), NONE);
        x.best(0, 0, 1);
        x.rule(2, 1, 2);
        due.is("a PAIR is not THE BEST PAIR", x.pairTold(0), NONE);
        due.is("a PAIR is not THE BEST PAIR", x.pairTold(1), NONE);
    }

    private static void pairToldBad(Due due) {
        due.bounds("what", Made::everything, 0, 1, Counted::pairTold);
        for (int wrong : Numbers.outside(0, 1)) {
            due.bad("before any, " + wrong, Made::empty, x -> x.pairTold(wrong));
        }
    }

    private static void serviceBad(Due due) {
        startBad(due, (x, book, at, days) -> x.service(0, 1, book, at, days));
        startBad(due, (x, book, at, days) -> x.service(2, 4, book, at, days));
        due.bounds("rule", Made::everything, 0, 4, (x, rule) -> x.service(1, rule, 0, 0, 1));
        due.bounds("kind", Made::everything, 0, 2, (x, kind) -> x.service(kind, 1, 3, 0, 1));
    }

    private static void serviceNothing(Due due) {
        for (int kind = 0; kind <= 2; kind++) {
            int of = kind;
            due.finds("a dropped RULE", Made::everything, NOTHING, x -> x.service(of, 4, 0, 0, 1));
            due.finds("a missing BOOK", Made::everything, NOTHING, x -> x.service(of, 1, 3, 0, 1));
            due.finds("both", Made::everything, NOTHING, x -> x.service(of, 4, 3, 0, 1));
            due.finds("ahead of NOUGHT", Made::everything, NOTHING, x -> x.service(of, 4, 2, 0, 1));
        }
    }

    private static void serviceNought(Due due) {
        for (int kind = 0; kind <= 2; kind++) {
            int of = kind;
            due.finds("of 0", Made::everything, NOUGHT, x -> x.service(of, 1, 2, 0, 1));
        }
    }
}
