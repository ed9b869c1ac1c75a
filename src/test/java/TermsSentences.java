/** What the terms say of refused calls, FINDINGS and fractions, and for how many calls an object is used. */
final class TermsSentences {
    private static final int NOTHING = 1, BEYOND = 2, UNLIKE = 3, NOUGHT = 4, SIZE = 5;
    private static final int BAD = SendForMore.BAD, FULL = SendForMore.FULL, FINDING = SendForMore.FINDING;

    private TermsSentences() {
    }

    static void all(Sentences s) {
        s.terms("BAD -1", due -> due.is("BAD", BAD, -1));
        s.terms("FULL -2", due -> due.is("FULL", FULL, -2));
        s.terms("STATE -4 (not now)", due -> due.is("STATE", SendForMore.STATE, -4));
        s.terms("FINDING -3 (finding() tells which), unless a call says so otherwise.", TermsSentences::findingTells);
        s.terms("NONE -9.", due -> due.is("NONE", SendForMore.NONE, -9));
        s.terms("(a number that is none, or not as told)", TermsSentences::numbersThatAreNone);
        s.terms("Refused is, the first of these that fits, in this order: BAD", TermsSentences::badAheadOfFull);
        s.terms("the first of these that fits, in this order: BAD", TermsSentences::badAheadOfFinding);
        s.terms("FULL -2, STATE -4 (not now), FINDING -3", TermsSentences::fullAheadOfFinding);
        s.terms("What is refused changes nothing but finding(), findings().", TermsSentences::refusedChangesNothing);
        s.terms("FINDINGS: 1 NOTHING (a BOOK, a SHEET, a RULE that is missing)", TermsSentences::nothing);
        s.terms("2 BEYOND (a place that there is not)", TermsSentences::beyond);
        s.terms("3 UNLIKE (a RULE of another KIND)", due ->
            due.finds("a BASE is no LOT", Made::everything, UNLIKE, x -> x.mark(1, 3)));
        s.terms("4 NOUGHT (shared among none: all weights are 0)", TermsSentences::nought);
        s.terms("5 SIZE (fewer than none).", due ->
            due.finds("a SHEET of -1", Made::everything, SIZE, x -> x.sheet(0, -1)));
        s.terms("Fractions are told by upper() and lower(), in lowest terms", TermsSentences::lowestTerms);
        s.terms(", the lower number above 0", TermsSentences::lowerIsAboveNought);
        s.terms("(0 by 1).", TermsSentences::noughtByOne);
        s.start("An object is used for at most 512 calls after it has been made", TermsSentences::lastCallOfAll);
        s.start("; what later calls answer is free.", TermsSentences::noTestAsksLater);
    }

    private static void findingTells(Due due) {
        due.is("FINDING", FINDING, -3);
        due.finds("NOTHING", Made::everything, NOTHING, x -> x.close(3));
        due.finds("BEYOND", Made::everything, BEYOND, x -> x.lay(1, 0, 1));
        due.finds("UNLIKE", Made::everything, UNLIKE, x -> x.mark(0, 1));
        due.finds("NOUGHT", Made::everything, NOUGHT, x -> x.mean(2));
        due.finds("SIZE", Made::everything, SIZE, x -> x.sheet(2, -5));
    }

    private static void numbersThatAreNone(Due due) {
        due.bad("a BOOK", Made::everything, x -> x.mean(4));
        due.bad("a SHEET", Made::everything, x -> x.tear(4));
        due.bad("a RULE that never was", Made::everything, x -> x.told(5, 0));
        due.bad("the first RULE that never can be", Made::fullOfAll, x -> x.told(12, 0));
        due.bad("a KIND", Made::everything, x -> x.mark(0, 4));
        due.bad("a POSITION", Made::everything, x -> x.order(0, 37));
        due.bad("a DEMAND", Made::everything, x -> x.see(7));
        due.bad("a weight", Made::everything, x -> x.weigh(0, 0, 10));
        due.finds("a dropped RULE's number is one still", Made::everything, NOTHING, x -> x.told(4, 0));
    }

    private static void badAheadOfFull(Due due) {
        due.bad("rule", Made::fullOfAll, x -> x.rule(0, 1, 1));
        due.bad("rule", Made::fullOfAll, x -> x.rule(1, 13, 1));
        due.bad("rule", Made::fullOfAll, x -> x.rule(2, 5, 5));
        due.bad("rule", Made::fullOfAll, x -> x.rule(3, 0, 0));
        due.bad("table", Made::fullOfAll, x -> x.table(4));
        due.bad("see", Made::fullOfAll, x -> x.see(7));
        due.bad("see", Made::fullOfAll, x -> x.see(-1));
    }

    private static void badAheadOfFinding(Due due) {
        due.bad("weigh", Made::everything, x -> x.weigh(3, 0, 10));
        due.bad("weigh", Made::everything, x -> x.weigh(0, 7, 10));
        due.bad("copy", Made::everything, x -> x.copy(3, 0, 4, 0, 1));
        due.bad("copy", Made::everything, x -> x.copy(4, 0, 0, 0, 8));
        due.bad("sheet", Made::everything, x -> x.sheet(4, -1));
        due.bad("lay", Made::everything, x -> x.lay(4, 25, 1));
        due.bad("told", Made::everything, x -> x.told(4, 5));
        due.bad("mark", Made::everything, x -> x.mark(4, 4));
        due.bad("order", Made::everything, x -> x.order(4, 37));
        due.bad("cost", Made::everything, x -> x.cost(4, 0, 0, 7));
        due.bad("cost", Made::everything, x -> x.cost(5, 3, 0, 1));
        due.bad("cost", Made::everything, x -> x.cost(1, 2, 8, 1));
        due.bad("service", Made::everything, x -> x.service(3, 4, 3, 0, 1));
        due.bad("best", Made::everything, x -> x.best(3, 8, 1));
        due.bad("bestPair", Made::everything, x -> x.bestPair(2, 0, 0));
        due.bad("spoilt", Made::everything, x -> x.spoilt(3, 13, 1, 1, true));
        due.bad("doubt", Made::everything, x -> x.doubt(3, 3, 1, 1));
        due.bad("doubt", Made::everything, x -> x.doubt(3, 2, 1, 10));
    }

    private static void fullAheadOfFinding(Due due) {
        due.full("table of a missing SHEET", Made::fullOfAll, x -> x.table(3));
        due.finds("the same while there is room", Made::everything, NOTHING, x -> x.table(3));
    }

    /** Every call that can be refused, each in all ways that it can be: on everything(). */
    private static void allRefusedOnes(Counted x) {
        x.book(4);
        x.weigh(0, 0, 10);
        x.weigh(3, 0, 9);
        x.weigh(0, 7, 9);
        x.close(-1);
        x.close(3);
        x.copy(0, 0, 4, 0, 1);
        x.copy(0, 0, 3, 0, 1);
        x.copy(0, 0, 1, 1, 7);
        x.copy(0, 1, 0, 0, 7);
        x.sheet(0, 26);
        x.sheet(0, -1);
        x.lay(4, 0, 9);
        x.lay(3, 0, 9);
        x.lay(0, 4, 9);
        x.tear(3);
        x.table(4);
        x.table(3);
        x.rule(2, 5, 5);
        x.drop(5);
        x.drop(4);
        x.told(4, 0);
        x.mark(1, 3);
        x.order(1, 37);
        x.shop(13, 0, false);
        x.shop(1, 3, false);
        x.costs(0, 0, 0, 101);
        x.costs(-1, 0, 0, 0);
        refusedReckonings(x);
        x.see(7);
        x.pairTold(2);
        x.count(6);
        x.findings(6);
    }

    private static void refusedReckonings(Counted x) {
        x.cost(1, 0, 0, 7);
        x.cost(4, 0, 0, 1);
        x.cost(1, 3, 0, 1);
        x.cost(1, 2, 0, 1);
        x.service(3, 1, 0, 0, 1);
        x.service(1, 1, 2, 0, 1);
        x.best(0, 8, 1);
        x.best(2, 0, 1);
        x.bestPair(0, -13, 1);
        x.bestPair(2, 0, 1);
        x.spoilt(0, 13, 1, 1, true);
        x.spoilt(2, 1, 1, 1, true);
        x.doubt(0, 0, 1, 1);
        x.doubt(0, 2, 1, 1);
        x.doubt(3, 0, 1, 1);
    }

    private static void refusedChangesNothing(Due due) {
        Counted x = Made.everything();
        allRefusedOnes(x);
        due.alike("all that can be refused", x, Made.everything());
        Counted full = Made.fullOfAll();
        full.rule(1, 1, 1);
        full.table(0);
        full.see(3);
        due.is("FULL is no FINDING", full.finding(), SIZE);
        due.alike("all that can be FULL", full, Made.fullOfAll());
        Counted fresh = Made.empty();
        refusedReckonings(fresh);
        due.alike("with nothing there", fresh, Made.empty());
    }

    private static void nothing(Due due) {
        due.finds("a BOOK", Made::everything, NOTHING, x -> x.mean(3));
        due.finds("a SHEET", Made::everything, NOTHING, x -> x.table(3));
        due.finds("a RULE", Made::everything, NOTHING, x -> x.order(4, 0));
    }

    private static void beyond(Due due) {
        due.finds("a DEMAND", Made::everything, BEYOND, x -> x.weigh(0, 7, 1));
        due.finds("a weight", Made::everything, BEYOND, x -> x.copy(0, 6, 1, 0, 2));
        due.finds("a byte", Made::everything, BEYOND, x -> x.lay(0, 4, 1));
    }

    private static void nought(Due due) {
        due.finds("mean", Made::everything, NOUGHT, x -> x.mean(2));
        due.finds("cost", Made::everything, NOUGHT, x -> x.cost(1, 2, 0, 1));
        due.finds("service", Made::everything, NOUGHT, x -> x.service(0, 1, 2, 0, 1));
        due.finds("best", Made::everything, NOUGHT, x -> x.best(2, 0, 1));
        due.finds("bestPair", Made::everything, NOUGHT, x -> x.bestPair(2, 0, 1));
        due.finds("spoilt", Made::everything, NOUGHT, x -> x.spoilt(2, 1, 1, 1, true));
        due.finds("doubt", Made::everything, NOUGHT, x -> x.doubt(2, 0, 1, 1));
    }

    private static void lowestTerms(Due due) {
        Counted x = Made.weighed(9, 9, 9, 9, 9, 9, 9);
        x.spoilt(0, 1, 1, 1, false);
        due.tells("9 by 63", x, 1, 7);
        x.spoilt(0, 1, 1, 6, false);
        due.tells("54 by 63", x, 6, 7);
        x.rule(1, 5, 0);
        x.service(0, 0, 0, 5, 6);
        due.tells("54 by 63, six times", x, 46656, 117649);
        x.weigh(0, 6, 7);
        x.service(0, 0, 0, 5, 6);
        due.tells("54 by 61, six times", x, 24794911296L, 51520374361L);
    }

    private static void lowerIsAboveNought(Due due) {
        Counted x = Made.always(3);
        x.rule(1, 5, 0);
        x.cost(0, 0, 0, 6);
        due.tells("whole numbers are by 1", x, 10 + 5 + 2 + 5 * (10 + 3 + 2), 1);
        x.service(0, 0, 0, 0, 6);
        due.tells("all is 1 by 1", x, 1, 1);
    }

    private static void noughtByOne(Due due) {
        Counted x = Made.weighed(2, 4, 6);
        Made.weigh(x, 1, 0, 0, 0, 5);
        x.rule(2, -12, 0);
        x.costs(0, 0, 0, 0);
        due.is("cost", x.cost(0, 0, 3, 6), 1);
        due.tells("cost", x, 0, 1);
        x.doubt(0, 1, 2, 7);
        due.is("service 0", x.service(0, 0, 1, 0, 6), 1);
        due.tells("service 0", x, 0, 1);
        x.doubt(0, 1, 2, 7);
        due.is("service 2", x.service(2, 0, 0, 0, 6), 1);
        due.tells("service 2", x, 0, 1);
        x.doubt(0, 1, 2, 7);
        due.is("best", x.best(0, 0, 6), 0);
        due.tells("best", x, 0, 1);
        x.doubt(0, 1, 2, 7);
        due.is("bestPair", x.bestPair(0, 0, 6), 1);
        due.tells("bestPair", x, 0, 1);
        x.doubt(0, 1, 2, 7);
        due.is("spoilt", x.spoilt(0, 12, 3, 2, false), 1);
        due.tells("spoilt", x, 0, 1);
        x.see(3);
        due.is("doubt", x.doubt(0, 1, 2, 7), 1);
        due.tells("doubt", x, 0, 1);
    }

    /** Calls of all kinds, some of them refused, until so many are left. */
    private static void callUntil(Counted x, int left) {
        for (int i = 0; x.callsLeft() > left; i++) {
            switch (i % 12) {
                case 0: x.book(1); break;
                case 1: x.weigh(1, i % 7, i % 10); break;
                case 2: x.sheet(1, i % 26); break;
                case 3: x.lay(1, 0, i); break;
                case 4: x.table(1); break;
                case 5: x.see(i % 7); break;
                case 6: x.spoilt(0, i % 13, 1 + i % 3, 6, i % 2 == 0); break;
                case 7: x.best(0, i % 13, 6); break;
                case 8: x.bestPair(0, i % 13, 3); break;
                case 9: x.close(1); break;
                case 10: x.cost(0, 0, i % 13, 6); break;
                default: x.doubt(0, 1, 1, 9); break;
            }
        }
    }

    private static void lastCallOfAll(Due due) {
        Counted x = Made.always(3);
        x.costs(5, 0, 1, 10);
        callUntil(x, 3);
        due.is("best, the 510th call", x.best(0, 0, 2), 6);
        due.is("upper, the 511th", x.upper(), 8);
        due.is("lower, the 512th", x.lower(), 1);
        Counted other = Made.always(3);
        other.costs(5, 0, 1, 10);
        callUntil(other, 4);
        due.is("bestPair, the 509th call", other.bestPair(0, 0, 2), 1);
        due.is("its cost", other.upper(), 8);
        due.is("its s", other.pairTold(0), 0);
        due.is("its S, the 512th call", other.pairTold(1), 6);
    }

    private static void noTestAsksLater(Due due) {
        Counted x = Made.empty();
        callUntil(x, 0);
        boolean stopped = false;
        try {
            x.digest();
        } catch (IllegalStateException e) {
            stopped = true;
        }
        due.isTrue("a test that asks later is stopped", stopped);
    }
}
