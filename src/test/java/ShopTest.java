/** Promises 16 to 22: shop, costs, cost, service, best, bestPair, pairTold. Worked out by hand. */
public final class ShopTest {
    private static final Due due = new Due("ShopTest");
    private static final int MIN = Integer.MIN_VALUE, MAX = Integer.MAX_VALUE;

    public static void main(String[] args) {
        shops();
        prices();
        meanCosts();
        thrownAway();
        owedAtTheFloor();
        late();
        services();
        theBest();
        pairs();
        pairsAlike();
        refusals();
        due.end();
    }

    private static void shops() {
        SendForMore x = new SendForMore();
        due.is("shop", x.shop(1, 2, true), 1);
        due.is("MOST", x.count(3), 1);
        due.is("LEAD", x.count(4), 2);
        due.is("OWED", x.count(5), 1);
        due.is("shop", x.shop(12, 0, false), 1);
        due.is("LOST", x.count(5), 0);
        for (int most : new int[] {0, 13, -1, MIN, MAX}) {
            due.bad("MOST " + most, x, () -> x.shop(most, 1, true));
        }
        for (int lead : new int[] {-1, 3, MIN, MAX}) {
            due.bad("LEAD " + lead, x, () -> x.shop(5, lead, true));
        }
    }

    private static void prices() {
        SendForMore x = new SendForMore();
        long before = x.digest();
        due.is("costs", x.costs(0, 100, 0, 100), 1);
        due.isTrue("they are told by the digest", x.digest() != before);
        due.is("costs at first", x.costs(10, 1, 1, 5), 1);
        due.is("as at first", x.digest(), before);
        for (int wrong : new int[] {-1, 101, MIN, MAX}) {
            due.bad("k " + wrong, x, () -> x.costs(wrong, 0, 0, 0));
            due.bad("c " + wrong, x, () -> x.costs(0, wrong, 0, 0));
            due.bad("h " + wrong, x, () -> x.costs(0, 0, wrong, 0));
            due.bad("b " + wrong, x, () -> x.costs(0, 0, 0, wrong));
        }
    }

    /** BOOK 0: a DEMAND is always of one size. */
    private static SendForMore always(int demand) {
        SendForMore x = new SendForMore();
        x.book(0);
        x.weigh(0, demand, 9);
        return x;
    }

    private static void costIs(String what, SendForMore x, int at, int days, long upper, long lower) {
        due.is(what, x.cost(0, 0, at, days), 1);
        due.tells(what, x, upper, lower);
    }

    private static void meanCosts() {
        SendForMore x = always(2);
        x.rule(1, 5, 0);
        x.costs(100, 10, 1, 7);
        costIs("5 are sent for, 3 are left", x, 0, 1, 153, 1);
        costIs("none is sent for", x, 5, 1, 3, 1);
        costIs("then 2 a day", x, 0, 3, 153 + 2 * 123, 1);
        x.weigh(0, 2, 1);
        x.weigh(0, 6, 2);
        costIs("3 are left, or 1 lacks twice as often", x, 5, 1, 3 + 2 * 7, 3);
        x.drop(0);
        due.finds("cost of a dropped one", x, 1, () -> x.cost(0, 0, 0, 1));
    }

    private static void thrownAway() {
        SendForMore x = always(0);
        x.rule(3, 12, 12);
        x.costs(0, 1, 1, 0);
        x.shop(4, 0, false);
        costIs("12 are paid for, 4 are kept", x, 0, 1, 16, 1);
        x.shop(4, 1, false);
        costIs("the day after, the same", x, 0, 2, 12 + 12 + 4, 1);
        x.shop(4, 2, false);
        costIs("12 under way are not above r, 24 are", x, 0, 3, 12 + 12 + 0 + 4, 1);
        costIs("the POSITION knows no MOST until it comes", x, 1, 3, 1 + 12 + 1 + 0 + 4, 1);
    }

    private static void owedAtTheFloor() {
        SendForMore x = always(6);
        x.rule(1, 0, 0);
        x.costs(1, 0, 0, 1);
        x.shop(12, 1, true);
        costIs("at -12 what is more is lost, but lacks", x, -12, 1, 1 + 6, 1);
        costIs("12 come, and all of it is given to what is OWED", x, -12, 2, 7 + 6, 1);
        x.shop(12, 1, false);
        costIs("LOST: 0 at least", x, 0, 2, 12, 1);
    }

    private static void late() {
        SendForMore x = always(1);
        x.rule(1, 3, 0);
        x.costs(0, 0, 1, 10);
        x.shop(12, 2, false);
        costIs("nothing comes for two days", x, 0, 2, 20, 1);
        costIs("then 3 do", x, 0, 3, 22, 1);
        x.shop(12, 1, false);
        costIs("nothing comes for a day", x, 0, 2, 12, 1);
    }

    private static void serviceIs(String what, SendForMore x, int kind, int at, int days, long upper, long lower) {
        due.is(what, x.service(kind, 0, 0, at, days), 1);
        due.tells(what, x, upper, lower);
    }

    private static void services() {
        SendForMore x = new SendForMore();
        x.book(0);
        x.weigh(0, 1, 1);
        x.weigh(0, 3, 3);
        x.rule(1, 0, 0);
        serviceIs("2 do for 1", x, 0, 2, 1, 1, 4);
        serviceIs("2 do for 1 twice", x, 0, 2, 2, 1, 16);
        serviceIs("met of 1 and thrice 3", x, 1, 2, 1, 1 + 3 * 2, 10);
        serviceIs("1 is left, once of four", x, 2, 2, 1, 1, 4);
        serviceIs("and none the day after", x, 2, 2, 2, 1, 8);
        serviceIs("none in hand, none met", x, 1, 0, 6, 0, 1);
        serviceIs("none in hand, no chance", x, 0, 0, 6, 0, 1);
        x.weigh(0, 1, 0);
        x.weigh(0, 3, 0);
        x.weigh(0, 0, 4);
        serviceIs("nobody asks, nothing lacks", x, 0, 0, 6, 1, 1);
        serviceIs("nobody asks: 0 by 1", x, 1, 5, 6, 0, 1);
        serviceIs("nobody asks, it stays", x, 2, 1, 6, 1, 1);
        serviceIs("nobody asks, there is none", x, 2, 0, 6, 0, 1);
        x.shop(12, 0, true);
        serviceIs("what is OWED does not lack again", x, 0, -3, 6, 1, 1);
    }

    private static void bestIs(String what, SendForMore x, int at, int days, int order, long upper, long lower) {
        due.is(what, x.best(0, at, days), order);
        due.tells(what, x, upper, lower);
    }

    private static void theBest() {
        SendForMore x = always(3);
        x.costs(5, 0, 1, 10);
        bestIs("3 just do", x, 0, 1, 3, 5, 1);
        bestIs("6 at once are dearer by 3 and spare 5", x, 0, 2, 6, 8, 1);
        bestIs("none is sent for in vain", x, 3, 1, 0, 0, 1);
        x.costs(0, 0, 0, 0);
        bestIs("the least of alike ones", x, 0, 6, 0, 0, 1);
        x.costs(0, 0, 0, 1);
        bestIs("the least of alike ones that meet all", x, 0, 1, 3, 0, 1);
        x.shop(12, 1, false);
        bestIs("what comes too late is not sent for", x, 0, 1, 0, 3, 1);
        bestIs("what comes in time is", x, 0, 2, 3, 3, 1);
        x.shop(12, 2, false);
        bestIs("two days late", x, 0, 3, 3, 6, 1);
        x.shop(2, 0, false);
        bestIs("MOST keeps it low", x, 0, 1, 2, 1, 1);
        x.shop(12, 0, true);
        bestIs("what is OWED is given first: 6 now and 12 then just do", x, -12, 2, 6, 3, 1);
        due.is("best needs no rule", x.count(0), 0);
    }

    private static void pairIs(String what, SendForMore x, int at, int days, int low, int top) {
        due.is(what, x.bestPair(0, at, days), 1);
        due.is(what + ", s", x.pairTold(0), low);
        due.is(what + ", S", x.pairTold(1), top);
    }

    private static void pairs() {
        SendForMore x = always(3);
        due.is("pairTold before", x.pairTold(0), SendForMore.NONE);
        due.is("pairTold before", x.pairTold(1), SendForMore.NONE);
        for (int what : new int[] {-1, 2, MIN, MAX}) {
            due.bad("pairTold of " + what, x, () -> x.pairTold(what));
        }
        due.bad("a refused bestPair", x, () -> x.bestPair(0, 0, 0));
        due.is("pairTold after a refused one", x.pairTold(1), SendForMore.NONE);
        x.costs(5, 0, 1, 10);
        pairIs("6 at once", x, 0, 2, 0, 6);
        due.tells("6 at once", x, 8, 1);
        x.shop(4, 0, false);
        pairIs("S is at most MOST", x, 0, 2, 0, 3);
        due.tells("S is at most MOST", x, 10, 1);
        due.finds("a refused bestPair", x, 1, () -> x.bestPair(1, 0, 2));
        due.is("no RULE is made", x.count(0), 0);
        x.weigh(0, 3, 1);
        x.costs(2, 0, 0, 1);
        pairIs("to meet 3 spares just 1", x, 0, 1, 0, 3);
        due.tells("to meet 3 spares just 1", x, 2, 1);
    }

    private static void pairsAlike() {
        SendForMore x = always(3);
        x.costs(0, 0, 0, 0);
        pairIs("all alike: the least S, then the least s", x, 4, 6, -12, 0);
        x.costs(0, 0, 0, 1);
        pairIs("any that meets 3 each day", x, 0, 6, 0, 3);
        x.shop(12, 0, true);
        pairIs("from -2, s is no lower than it is reached", x, -2, 1, -2, 3);
        pairIs("nothing can be met", x, -12, 1, -12, 0);
        x.shop(1, 0, true);
        pairIs("S 1 alone meets one of them", x, -2, 1, -2, 1);
    }

    private static void refusals() {
        SendForMore x = new SendForMore();
        x.rule(1, 3, 0);
        x.rule(1, 3, 0);
        x.drop(1);
        x.book(1);
        due.finds("a missing book", x, 1, () -> x.cost(0, 0, 0, 1));
        due.finds("a missing book", x, 1, () -> x.service(0, 0, 0, 0, 1));
        due.finds("a missing book", x, 1, () -> x.best(0, 0, 1));
        due.finds("a missing book", x, 1, () -> x.bestPair(0, 0, 1));
        due.finds("a missing rule goes ahead of nought", x, 1, () -> x.cost(1, 1, 0, 1));
        due.finds("a missing rule goes ahead of nought", x, 1, () -> x.service(0, 1, 1, 0, 1));
        due.finds("all weights 0", x, 4, () -> x.cost(0, 1, 0, 1));
        due.finds("all weights 0", x, 4, () -> x.service(2, 0, 1, 0, 1));
        due.finds("all weights 0", x, 4, () -> x.best(1, 0, 1));
        due.finds("all weights 0", x, 4, () -> x.bestPair(1, 0, 1));
        for (int wrong : new int[] {-1, 2, 12, MIN, MAX}) {
            due.bad("rule " + wrong, x, () -> x.cost(wrong, 0, 0, 1));
            due.bad("rule " + wrong, x, () -> x.service(0, wrong, 0, 0, 1));
        }
        for (int wrong : new int[] {-1, 3, MIN, MAX}) {
            due.bad("kind " + wrong, x, () -> x.service(wrong, 0, 0, 0, 1));
        }
        startsRefused(x, new int[] {-1, 4, MIN, MAX}, 0);
        startsRefused(x, new int[] {-1, 13, MIN, MAX}, 1);
        startsRefused(x, new int[] {0, 7, -1, MIN, MAX}, 2);
        x.shop(4, 0, true);
        startsRefused(x, new int[] {-13, 5, 12}, 1);
        due.finds("-12 is fine", x, 4, () -> x.cost(0, 1, -12, 6));
        due.finds("MOST is fine", x, 4, () -> x.bestPair(1, 4, 6));
        x.shop(4, 0, false);
        startsRefused(x, new int[] {-1, 5}, 1);
    }

    private static void startsRefused(SendForMore x, int[] wrongs, int place) {
        for (int wrong : wrongs) {
            int book = place == 0 ? wrong : 0;
            int at = place == 1 ? wrong : 0;
            int days = place == 2 ? wrong : 1;
            String what = " of book " + book + " from " + at + " over " + days;
            due.bad("cost" + what, x, () -> x.cost(0, book, at, days));
            due.bad("service" + what, x, () -> x.service(0, 0, book, at, days));
            due.bad("best" + what, x, () -> x.best(book, at, days));
            due.bad("bestPair" + what, x, () -> x.bestPair(book, at, days));
        }
    }
}
