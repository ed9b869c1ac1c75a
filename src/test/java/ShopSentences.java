/** Promises 16 and 17, and what the terms say of THE SHOP and of a DAY in it. */
final class ShopSentences {
    private static final int DAYS = 6;

    private ShopSentences() {
    }

    static void all(Sentences s) {
        s.terms("THE SHOP: MOST (1 .. 12; 12 at first)", ShopSentences::mostAtFirst);
        s.terms("MOST (1 .. 12;", ShopSentences::mostEdges);
        s.terms("LEAD (0 .. 2; 0 at first)", ShopSentences::leadAtFirst);
        s.terms("LEAD (0 .. 2;", ShopSentences::leadEdges);
        s.terms("OWED or LOST (LOST at first)", ShopSentences::lostAtFirst);
        s.terms("; costs: k for each ORDER above 0", ShopSentences::perOrder);
        s.terms("c for each piece of it", ShopSentences::perPiece);
        s.terms("h for each that is left in the evening", ShopSentences::perLeft);
        s.terms("b for each that lacks", ShopSentences::perLacking);
        s.terms("(0 .. 100 each;", ShopSentences::priceEdges);
        s.terms("10, 1, 1, 5 at first).", ShopSentences::pricesAtFirst);

        s.terms("A DAY begins with x in hand (below 0: so many are OWED)", ShopSentences::inHand);
        s.terms(", and what is under way. POSITION: x and all that is under way.", ShopSentences::position);
        s.terms("POSITION: x and all that is under way.", ShopSentences::highestPosition);
        s.terms("1. A RULE ORDERS.", ShopSentences::ordersBeforeItComes);
        s.terms("2. What was ORDERED LEAD days ago (0: just now) comes", ShopSentences::comesLeadDaysLater);
        s.terms(": x is that more, but never above MOST", ShopSentences::neverAboveMost);
        s.terms("(what is more is thrown away).", ShopSentences::thrownAway);
        s.terms("3. A DEMAND d: of it as many as x has, if x is above 0, are MET", ShopSentences::met);
        s.terms(", the rest LACKS.", ShopSentences::lacks);
        s.terms("x is less by d", ShopSentences::lessByDemand);
        s.terms("; if LOST: 0 at least", ShopSentences::lostAtNought);
        s.terms("; if OWED: -12 at least", ShopSentences::owedAtTheFloor);
        s.terms("(what is more is lost).", ShopSentences::belowTheFloorIsLost);
        s.terms("4. The day costs k (if ORDER is above 0)", ShopSentences::noOrderNoPrice);
        s.terms(", c by ORDER", ShopSentences::perPiece);
        s.terms(", h by x (if above 0)", ShopSentences::owedIsNotLeft);
        s.terms(", b by what LACKS.", ShopSentences::perLacking);
        s.terms("What is OWED is no cost later", ShopSentences::owedIsNoCostLater);
        s.terms(", and is given as it comes.", ShopSentences::owedIsGivenAsItComes);

        s.promise(16, "MOST, LEAD, OWED or not: 1.", ShopSentences::shopTold);
        s.promise(16, "BAD.", ShopSentences::shopBad);
        s.promise(17, "Costs: 1.", ShopSentences::costsTold);
        s.promise(17, "BAD.", ShopSentences::costsBad);
    }

    /** RULE 0 never ORDERS while x is above -12. */
    private static Counted withoutOrders(int demand) {
        Counted x = Made.always(demand);
        x.rule(2, -12, 0);
        return x;
    }

    /** RULE 0 ORDERS so many each day. */
    private static Counted eachDay(int demand, int pieces) {
        Counted x = Made.always(demand);
        x.rule(3, 12, pieces);
        return x;
    }

    /** RULE 0 is a table that ORDERS at one POSITION alone. */
    private static Counted onlyAt(int demand, int position, int pieces) {
        Counted x = Made.always(demand);
        x.sheet(0, 25);
        x.lay(0, position + 12, pieces);
        x.table(0);
        return x;
    }

    static void costIs(Due due, String what, Counted x, int at, int days, long upper, long lower) {
        due.is(what, x.cost(0, 0, at, days), 1);
        due.tells(what, x, upper, lower);
    }

    private static void costIs(Due due, String what, Counted x, int at, int days, long cost) {
        costIs(due, what, x, at, days, cost, 1);
    }

    private static void mostAtFirst(Due due) {
        due.is("MOST", Made.empty().count(3), 12);
        Counted x = eachDay(0, 12);
        x.costs(0, 0, 1, 0);
        costIs(due, "12 more than 12 are 12", x, 12, 1, 12);
        due.is("from 13", x.cost(0, 0, 13, 1), SendForMore.BAD);
    }

    private static void mostEdges(Due due) {
        Counted x = eachDay(0, 12);
        x.costs(0, 0, 1, 0);
        for (int most = 1; most <= 12; most++) {
            due.is("shop(" + most + ")", x.shop(most, 0, false), 1);
            due.is("MOST", x.count(3), most);
            costIs(due, "no more are left than MOST", x, 0, 1, most);
            due.is("from MOST", x.cost(0, 0, most, 1), 1);
            due.is("from above MOST", x.cost(0, 0, most + 1, 1), SendForMore.BAD);
        }
        due.bounds("MOST", Made::everything, 1, 12, (y, most) -> y.shop(most, 1, true));
    }

    private static void leadAtFirst(Due due) {
        due.is("LEAD", Made.empty().count(4), 0);
        Counted x = eachDay(1, 1);
        x.costs(0, 0, 0, 1);
        costIs(due, "nothing lacks", x, 0, DAYS, 0);
    }

    private static void leadEdges(Due due) {
        Counted x = eachDay(1, 1);
        x.costs(0, 0, 0, 1);
        for (int lead = 0; lead <= 2; lead++) {
            due.is("shop", x.shop(12, lead, false), 1);
            due.is("LEAD", x.count(4), lead);
            costIs(due, "as many lack as days are waited", x, 0, DAYS, lead);
        }
        due.bounds("LEAD", Made::everything, 0, 2, (y, lead) -> y.shop(7, lead, true));
    }

    private static void lostAtFirst(Due due) {
        due.is("OWED", Made.empty().count(5), 0);
        Counted x = Made.always(6);
        x.rule(1, 1, 0);
        x.costs(0, 1, 0, 0);
        due.is("none are OWED", x.cost(0, 0, -1, 1), SendForMore.BAD);
        costIs(due, "what lacked is not sent for", x, 2, 2, 1);
        x.shop(12, 0, true);
        due.is("OWED", x.count(5), 1);
        costIs(due, "what lacked is sent for, too", x, 2, 2, 5);
        x.shop(12, 0, false);
        costIs(due, "LOST again", x, 2, 2, 1);
    }

    private static void perOrder(Due due) {
        for (int pieces : new int[] {1, 12}) {
            Counted x = eachDay(0, pieces);
            x.costs(7, 0, 0, 0);
            costIs(due, "six ORDERS of " + pieces, x, 0, DAYS, 42);
        }
    }

    private static void perPiece(Due due) {
        for (int pieces : new int[] {1, 3, 12}) {
            Counted x = eachDay(0, pieces);
            x.costs(0, 7, 0, 0);
            costIs(due, "a day", x, 0, 1, 7 * pieces);
            costIs(due, "six days, though not all can be kept", x, 0, DAYS, 42 * pieces);
        }
    }

    private static void perLeft(Due due) {
        Counted x = withoutOrders(1);
        x.costs(0, 0, 7, 0);
        costIs(due, "3, 2, 1 and none", x, 4, DAYS, 42);
        costIs(due, "none at all", x, 0, DAYS, 0);
        costIs(due, "just none", x, 1, 1, 0);
        costIs(due, "just one", x, 2, 1, 7);
    }

    private static void perLacking(Due due) {
        Counted x = withoutOrders(2);
        x.costs(0, 0, 0, 7);
        costIs(due, "none, 1, 2", x, 3, 3, 21);
        costIs(due, "just none", x, 2, 1, 0);
        costIs(due, "just one", x, 1, 1, 7);
        costIs(due, "all", x, 0, DAYS, 84);
    }

    private static void priceEdges(Due due) {
        Counted x = Made.always(2);
        x.rule(1, 3, 0);
        due.is("costs of 0", x.costs(0, 0, 0, 0), 1);
        costIs(due, "nothing", x, 0, DAYS, 0);
        due.is("costs of 100", x.costs(100, 100, 100, 100), 1);
        costIs(due, "an ORDER, 3 pieces, 1 left", x, 0, 1, 500);
        Counted lacking = withoutOrders(6);
        lacking.costs(100, 100, 100, 100);
        costIs(due, "6 lack", lacking, 0, 1, 600);
        costIs(due, "6 lack each day", lacking, 0, DAYS, 3600);
        costsBad(due);
    }

    private static void pricesAtFirst(Due due) {
        Counted x = Made.always(2);
        x.rule(1, 5, 0);
        costIs(due, "an ORDER, 5 pieces, 3 left", x, 0, 1, 10 + 5 + 3);
        costIs(due, "one piece less", x, 1, 1, 10 + 4 + 3);
        costIs(due, "no ORDER, 3 left", x, 5, 1, 3);
        costIs(due, "no ORDER, 4 left", x, 6, 1, 4);
        costIs(due, "1 lacks", withoutOrders(2), 1, 1, 5);
        costIs(due, "2 lack", withoutOrders(2), 0, 1, 10);
        due.is("digest()", Made.empty().digest(), ToldSentences.digestAtFirst());
    }

    private static void inHand(Due due) {
        Counted x = Made.always(0);
        x.rule(1, 4, 0);
        x.shop(12, 0, true);
        x.costs(0, 1, 0, 0);
        costIs(due, "4 less 3", x, 3, 1, 1);
        costIs(due, "3 are OWED: 4 and 3", x, -3, 1, 7);
        costIs(due, "8 are OWED: 4 and 8", x, -8, 1, 12);
        costIs(due, "12 are OWED: 12 are sent for, then 4", x, -12, 2, 16);
    }

    private static void position(Due due) {
        for (int lead = 0; lead <= 2; lead++) {
            Counted x = Made.always(0);
            x.rule(1, 5, 0);
            x.costs(0, 1, 0, 0);
            x.shop(12, lead, true);
            costIs(due, "5 are sent for once, LEAD " + lead, x, 0, DAYS, 5);
            costIs(due, "7 are sent for once, LEAD " + lead, x, -2, DAYS, 7);
        }
        Counted twice = Made.always(0);
        twice.rule(3, 5, 3);
        twice.costs(0, 1, 0, 0);
        twice.shop(12, 2, false);
        costIs(due, "3 and 3 under way are above 5", twice, 0, DAYS, 6);
        costIs(due, "on the third day both are", twice, 0, 3, 6);
        costIs(due, "on the second day one is", twice, 0, 2, 6);
        costIs(due, "x counts beside them", twice, 3, DAYS, 3);
    }

    private static void highestPosition(Due due) {
        Counted x = eachDay(0, 12);
        x.costs(0, 1, 0, 0);
        x.shop(12, 1, false);
        costIs(due, "12 in hand and 12 under way are above 12, LEAD 1", x, 12, 2, 12);
        costIs(due, "and 12 again are not", x, 12, 3, 24);
        x.shop(12, 2, false);
        costIs(due, "24 on the second day, LEAD 2", x, 12, 2, 12);
        costIs(due, "24 on the third day", x, 12, 3, 12);
        costIs(due, "12 again on the fourth day", x, 12, 4, 24);
        x.shop(4, 2, false);
        costIs(due, "12 under way are not above 12, 24 are", x, 0, 3, 24);
        costIs(due, "12 under way and 1 in hand are", x, 1, 3, 12);
        x.costs(0, 0, 1, 0);
        costIs(due, "4 of them are left in the end", x, 0, 4, 8);
        costIs(due, "beside 1", x, 1, 4, 1 + 1 + 4 + 4);
    }

    private static void ordersBeforeItComes(Due due) {
        Counted x = Made.always(0);
        x.rule(3, 4, 12);
        x.costs(0, 1, 0, 0);
        x.shop(4, 1, false);
        costIs(due, "12 are sent for", x, 0, 1, 12);
        costIs(due, "12 are under way: none", x, 0, 2, 12);
        costIs(due, "4 of them are in hand: 12 more", x, 0, 3, 24);
        Counted atOnce = Made.always(3);
        atOnce.rule(1, 3, 0);
        atOnce.costs(0, 0, 0, 1);
        costIs(due, "it comes ahead of the DEMAND", atOnce, 0, DAYS, 0);
    }

    private static void comesLeadDaysLater(Due due) {
        for (int lead = 0; lead <= 2; lead++) {
            Counted x = onlyAt(0, 0, 5);
            x.costs(0, 0, 1, 0);
            x.shop(12, lead, false);
            for (int days = 1; days <= DAYS; days++) {
                costIs(due, "LEAD " + lead + ", over " + days, x, 0, days, 5 * Math.max(0, days - lead));
            }
        }
    }

    private static void neverAboveMost(Due due) {
        Counted x = onlyAt(0, 3, 2);
        x.costs(0, 0, 1, 0);
        int[][] rows = {{12, 5}, {6, 5}, {5, 5}, {4, 4}, {3, 3}};
        for (int lead = 0; lead <= 2; lead++) {
            for (int[] row : rows) {
                x.shop(row[0], lead, false);
                costIs(due, "3 and 2 with MOST " + row[0] + ", LEAD " + lead, x, 3, 1 + lead, 3 * lead + row[1]);
            }
        }
    }

    private static void thrownAway(Due due) {
        for (int lead = 0; lead <= 2; lead++) {
            Counted x = Made.always(4);
            x.rule(3, 0, 12);
            x.costs(1, 0, 0, 0);
            x.shop(4, lead, false);
            costIs(due, "4 of 12 are gone the same day, LEAD " + lead, x, 0, DAYS, DAYS / (lead + 1));
            x.costs(0, 1, 0, 0);
            costIs(due, "12 are paid for", x, 0, 1, 12);
        }
    }

    private static void met(Due due) {
        Counted x = withoutOrders(6);
        x.shop(12, 0, true);
        int[][] rows = {{12, 1, 1}, {7, 1, 1}, {6, 1, 1}, {5, 5, 6}, {2, 1, 3}, {1, 1, 6}, {0, 0, 1}, {-1, 0, 1},
            {-11, 0, 1}};
        for (int[] row : rows) {
            due.is("service from " + row[0], x.service(1, 0, 0, row[0], 1), 1);
            due.tells("MET from " + row[0], x, row[1], row[2]);
        }
    }

    private static void lacks(Due due) {
        Counted x = withoutOrders(6);
        x.costs(0, 0, 0, 1);
        x.shop(12, 0, true);
        int[][] rows = {{12, 0}, {7, 0}, {6, 0}, {5, 1}, {1, 5}, {0, 6}, {-1, 6}, {-6, 6}, {-11, 6}};
        for (int[] row : rows) {
            costIs(due, "what LACKS from " + row[0], x, row[0], 1, row[1]);
        }
    }

    private static void lessByDemand(Due due) {
        Counted x = withoutOrders(2);
        x.costs(0, 0, 1, 0);
        costIs(due, "10, 8, 6, 4, 2, none", x, 12, DAYS, 30);
        costIs(due, "one day", x, 12, 1, 10);
        costIs(due, "DEMAND 0 takes none", withoutOrders(0), 12, DAYS, 72);
    }

    private static void lostAtNought(Due due) {
        Counted x = Made.always(6);
        x.rule(1, 1, 0);
        x.costs(0, 1, 0, 0);
        costIs(due, "not 4 below 0", x, 2, 2, 1);
        costIs(due, "just 0", x, 6, 2, 1);
        costIs(due, "still 1", x, 7, 2, 0);
        costIs(due, "each day anew", x, 0, DAYS, 6);
    }

    private static void owedAtTheFloor(Due due) {
        Counted x = onlyAt(6, -12, 5);
        x.costs(0, 1, 0, 0);
        x.shop(12, 0, true);
        costIs(due, "-5 less 6 is -11", x, -5, 2, 0);
        costIs(due, "-6 less 6 is -12", x, -6, 2, 5);
        costIs(due, "-7 less 6 is -12, too", x, -7, 2, 5);
        costIs(due, "-11 less 6 is -12, too", x, -11, 2, 5);
        costIs(due, "-12 and 5 less 6 is -12, too", x, -12, 2, 10);
    }

    private static void belowTheFloorIsLost(Due due) {
        Counted x = eachDay(6, 12);
        x.costs(0, 0, 0, 1);
        x.shop(12, 1, true);
        costIs(due, "of -12 and -6 just 12 are OWED: after 12 more all lack", x, -12, 2, 12);
        costIs(due, "and the day after none does", x, -12, 3, 12);
        Counted none = onlyAt(6, 12, 1);
        none.costs(0, 0, 0, 1);
        none.shop(12, 0, true);
        costIs(due, "what is lost LACKS all the same", none, -12, DAYS, 36);
    }

    private static void noOrderNoPrice(Due due) {
        Counted x = Made.always(0);
        x.rule(1, 5, 0);
        x.costs(100, 0, 0, 0);
        costIs(due, "nothing is sent for", x, 5, DAYS, 0);
        costIs(due, "nothing is sent for, above S", x, 6, DAYS, 0);
        costIs(due, "one is, once", x, 4, DAYS, 100);
        Counted below = onlyAt(0, 0, -1);
        below.costs(100, 100, 0, 0);
        costIs(due, "a byte below 0 is no ORDER", below, 0, DAYS, 0);
    }

    private static void owedIsNotLeft(Due due) {
        Counted x = withoutOrders(0);
        x.costs(0, 0, 100, 0);
        x.shop(12, 0, true);
        costIs(due, "5 are OWED", x, -5, DAYS, 0);
        costIs(due, "1 is OWED", x, -1, 1, 0);
        costIs(due, "none", x, 0, 1, 0);
        costIs(due, "1 is left", x, 1, 1, 100);
    }

    private static void owedIsNoCostLater(Due due) {
        Counted x = withoutOrders(0);
        x.costs(100, 100, 100, 100);
        x.shop(12, 0, true);
        costIs(due, "5 are OWED all the days", x, -5, DAYS, 0);
        Counted more = withoutOrders(1);
        more.costs(0, 0, 0, 1);
        more.shop(12, 0, true);
        costIs(due, "each day's own alone LACKS", more, 0, DAYS, 6);
    }

    private static void owedIsGivenAsItComes(Due due) {
        Counted x = Made.always(1);
        x.rule(3, -1, 7);
        x.costs(0, 0, 1, 100);
        x.shop(12, 0, true);
        costIs(due, "5 are OWED, 7 come, 1 is asked for", x, -5, 1, 1);
        costIs(due, "6 are OWED: none is left", x, -6, 1, 0);
        costIs(due, "7 are OWED: 1 lacks", x, -7, 1, 100);
        costIs(due, "8 are OWED: 1 lacks", x, -8, 1, 100);
        x.shop(12, 1, true);
        costIs(due, "it comes a day later", x, -5, 2, 100);
    }

    private static void shopTold(Due due) {
        Counted x = Made.empty();
        int[][] shops = {{1, 0, 1}, {12, 2, 0}, {1, 2, 1}, {12, 0, 0}, {7, 1, 1}};
        for (int[] of : shops) {
            due.is("shop", x.shop(of[0], of[1], of[2] == 1), 1);
            due.is("MOST", x.count(3), of[0]);
            due.is("LEAD", x.count(4), of[1]);
            due.is("OWED", x.count(5), of[2]);
        }
    }

    private static void shopBad(Due due) {
        for (boolean owed : new boolean[] {true, false}) {
            due.bounds("MOST", Made::everything, 1, 12, (x, most) -> x.shop(most, 2, owed));
            due.bounds("LEAD", Made::everything, 0, 2, (x, lead) -> x.shop(3, lead, owed));
        }
        due.bad("both", Made::everything, x -> x.shop(0, 3, false));
    }

    private static void costsTold(Due due) {
        Counted x = Made.empty();
        due.is("costs", x.costs(0, 100, 2, 3), 1);
        due.is("digest()", x.digest(), ToldSentences.digestByCosts(0, 100, 2, 3));
        due.is("costs", x.costs(100, 0, 100, 0), 1);
        due.is("digest()", x.digest(), ToldSentences.digestByCosts(100, 0, 100, 0));
        due.is("costs", x.costs(1, 2, 0, 100), 1);
        due.is("digest()", x.digest(), ToldSentences.digestByCosts(1, 2, 0, 100));
    }

    private static void costsBad(Due due) {
        due.bounds("k", Made::everything, 0, 100, (x, v) -> x.costs(v, 9, 8, 7));
        due.bounds("c", Made::everything, 0, 100, (x, v) -> x.costs(9, v, 8, 7));
        due.bounds("h", Made::everything, 0, 100, (x, v) -> x.costs(9, 8, v, 7));
        due.bounds("b", Made::everything, 0, 100, (x, v) -> x.costs(9, 8, 7, v));
    }
}
