/** Promise 23, and what the terms say of SPOILING. */
final class SpoilingSentences {
    private static final int NOTHING = 1, NOUGHT = 4;
    private static final boolean[] BOTH = {false, true};

    private SpoilingSentences() {
    }

    static void all(Sentences s) {
        s.terms("SPOILING (apart from THE SHOP)", SpoilingSentences::apartFromTheShop);
        s.terms(": each morning pieces are sent for, new, up to S (0 .. 12) together", SpoilingSentences::upTo);
        s.terms(", LOST if they lack", SpoilingSentences::lostIfTheyLack);
        s.terms("; a piece is given on its days 1 to A (A 1 .. 3)", SpoilingSentences::givenToItsLastDay);
        s.terms("; the oldest first", SpoilingSentences::oldestFirst);
        s.terms(", or the newest", SpoilingSentences::newestFirst);
        s.terms("; what is in its day A in the evening spoils.", SpoilingSentences::spoilsInTheEvening);
        s.terms("SPOILT: how many, over T days (1 .. 6) from none, on the mean.", SpoilingSentences::overDays);

        s.promise(23, "SPOILT, told by upper(), lower(): 1.", SpoilingSentences::onTheMean);
        s.promise(23, "BAD", SpoilingSentences::bad);
        s.promise(23, "NOTHING", SpoilingSentences::nothing);
        s.promise(23, "NOUGHT.", SpoilingSentences::nought);
    }

    private static void spoiltIs(Due due, Counted x, int s, int age, int days, boolean newest, long... told) {
        String what = "spoilt(0, " + s + ", " + age + ", " + days + ", " + newest + ")";
        due.is(what, x.spoilt(0, s, age, days, newest), 1);
        due.tells(what, x, told[0], told.length > 1 ? told[1] : 1);
    }

    private static void apartFromTheShop(Due due) {
        for (int lead = 0; lead <= 2; lead++) {
            Counted x = Made.always(1);
            x.shop(1, lead, true);
            x.costs(100, 100, 100, 100);
            spoiltIs(due, x, 12, 1, 2, false, 22);
            spoiltIs(due, x, 12, 3, 6, true, 22);
        }
    }

    private static void upTo(Due due) {
        for (int s = 0; s <= 12; s++) {
            Counted x = Made.always(0);
            for (boolean newest : BOTH) {
                spoiltIs(due, x, s, 1, 1, newest, s);
                spoiltIs(due, x, s, 1, 6, newest, 6L * s);
                spoiltIs(due, x, s, 2, 6, newest, 3L * s);
                spoiltIs(due, x, s, 3, 6, newest, 2L * s);
            }
        }
        due.bounds("S", Made::everything, 0, 12, (x, s) -> x.spoilt(0, s, 1, 1, true));
    }

    private static void lostIfTheyLack(Due due) {
        Counted x = Made.always(6);
        for (boolean newest : BOTH) {
            for (int age = 1; age <= 3; age++) {
                spoiltIs(due, x, 4, age, 6, newest, 0);
                spoiltIs(due, x, 6, age, 6, newest, 0);
            }
            spoiltIs(due, x, 7, 1, 6, newest, 6);
        }
        Counted some = Made.weighed(1, 0, 0, 0, 0, 0, 1);
        // 4 spoil on each day on which nobody asks, whatever lacked the day before.
        spoiltIs(due, some, 4, 1, 2, false, 4);
    }

    private static void givenToItsLastDay(Due due) {
        Counted x = Made.always(1);
        spoiltIs(due, x, 1, 3, 6, false, 0);
        spoiltIs(due, x, 2, 2, 6, false, 0);
        spoiltIs(due, x, 3, 3, 6, false, 0);
        spoiltIs(due, x, 4, 3, 2, false, 0);
        // 4 new, 3 of them in their day 2, 2 in their day 3: one is given, one spoils.
        spoiltIs(due, x, 4, 3, 3, false, 1);
        spoiltIs(due, x, 3, 2, 2, false, 1);
        due.bounds("A", Made::everything, 1, 3, (y, age) -> y.spoilt(0, 5, age, 2, false));
    }

    private static void oldestFirst(Due due) {
        Counted x = Made.always(2);
        spoiltIs(due, x, 5, 2, 2, false, 1);
        spoiltIs(due, x, 5, 2, 3, false, 1);
        spoiltIs(due, x, 5, 2, 4, false, 2);
        spoiltIs(due, x, 5, 3, 3, false, 0);
        spoiltIs(due, x, 6, 3, 3, false, 0);
        spoiltIs(due, x, 7, 3, 3, false, 1);
    }

    private static void newestFirst(Due due) {
        Counted x = Made.always(2);
        spoiltIs(due, x, 5, 2, 2, true, 3);
        spoiltIs(due, x, 5, 2, 3, true, 3);
        spoiltIs(due, x, 5, 3, 2, true, 0);
        spoiltIs(due, x, 5, 3, 3, true, 3);
        spoiltIs(due, x, 2, 3, 6, true, 0);
        spoiltIs(due, x, 3, 3, 2, true, 0);
        spoiltIs(due, x, 3, 3, 3, true, 1);
        // After 2, 1 there is one piece of each day: 2 more take the new one and that in its day 2.
        spoiltIs(due, Made.weighed(0, 1, 1), 3, 3, 3, true, 3 + 2 + 2 + 2, 8);
    }

    private static void spoilsInTheEvening(Due due) {
        Counted x = Made.always(0);
        for (boolean newest : BOTH) {
            for (int age = 1; age <= 3; age++) {
                for (int days = 1; days <= 6; days++) {
                    spoiltIs(due, x, 12, age, days, newest, 12L * (days / age));
                }
            }
        }
    }

    private static void overDays(Due due) {
        Counted x = Made.always(1);
        for (int days = 1; days <= 6; days++) {
            spoiltIs(due, x, 3, 1, days, true, 2L * days);
        }
        spoiltIs(due, x, 3, 2, 1, true, 0);
        spoiltIs(due, x, 3, 1, 1, true, 2);
        spoiltIs(due, x, 3, 1, 1, true, 2);
        due.bounds("T", Made::everything, 1, 6, (y, days) -> y.spoilt(0, 5, 2, days, false));
    }

    private static void onTheMean(Due due) {
        Counted x = Made.weighed(1, 0, 0, 0, 2);
        spoiltIs(due, x, 5, 1, 1, false, 7, 3);
        spoiltIs(due, x, 3, 1, 1, true, 1, 1);
        spoiltIs(due, x, 5, 1, 6, false, 14, 1);
        // 5 (once) or 1 (twice) are in their day 2 when 0 or 4 are asked for: of these 9 rows
        // 5, 1 and 1, 1 and 1 spoil, and of the other 4 none if the oldest go first, else 1.
        spoiltIs(due, x, 5, 2, 2, false, 1, 1);
        spoiltIs(due, x, 5, 2, 2, true, 5 + 2 + 2 + 4, 9);
        Counted prime = Made.weighed(9, 9, 9, 9, 9, 9, 7);
        spoiltIs(due, prime, 12, 1, 6, true, 6 * (12L * 61 - 177), 61);
    }

    private static void bad(Due due) {
        for (boolean newest : BOTH) {
            due.bounds("book", Made::everything, 0, 3, (x, v) -> x.spoilt(v, 5, 2, 2, newest));
            due.bounds("S", Made::everything, 0, 12, (x, v) -> x.spoilt(0, v, 2, 2, newest));
            due.bounds("A", Made::everything, 1, 3, (x, v) -> x.spoilt(0, 5, v, 2, newest));
            due.bounds("T", Made::everything, 1, 6, (x, v) -> x.spoilt(0, 5, 2, v, newest));
            due.bounds("S by a missing BOOK", Made::everything, 0, 12, (x, v) -> x.spoilt(3, v, 2, 2, newest));
            due.bounds("A by a missing BOOK", Made::everything, 1, 3, (x, v) -> x.spoilt(3, 5, v, 2, newest));
            due.bounds("T by a BOOK of 0", Made::everything, 1, 6, (x, v) -> x.spoilt(2, 5, 2, v, newest));
        }
    }

    private static void nothing(Due due) {
        due.finds("a missing BOOK", Made::everything, NOTHING, x -> x.spoilt(3, 5, 2, 2, true));
        due.finds("a missing BOOK, up to none", Made::everything, NOTHING, x -> x.spoilt(3, 0, 1, 1, false));
    }

    private static void nought(Due due) {
        due.finds("all weights 0", Made::everything, NOUGHT, x -> x.spoilt(2, 5, 2, 2, true));
        due.finds("all weights 0, up to none", Made::everything, NOUGHT, x -> x.spoilt(2, 0, 1, 1, false));
    }
}
