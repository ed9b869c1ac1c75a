/** Promises 1 to 6, and what the terms say of BOOKS. */
final class BooksSentences {
    private static final int NOTHING = 1, BEYOND = 2, NOUGHT = 4;

    private BooksSentences() {
    }

    static void all(Sentences s) {
        s.terms("BOOKS 0 .. 3", BooksSentences::booksAreFour);
        s.terms("are rows of 7 weights", BooksSentences::rowsAreOfSeven);
        s.terms("(0 .. 9)", BooksSentences::weightsGoToNine);
        s.terms(": that of DEMAND 0, 1, .., 6", BooksSentences::eachDemandHasItsOwnWeight);
        s.terms("or missing (at first).", BooksSentences::missingAtFirst);
        s.terms("W: all weights of it together; a DEMAND has its weight by W as its chance", BooksSentences::chances);
        s.terms(", each day anew.", BooksSentences::eachDayAnew);

        s.promise(1, "No BOOKS", BooksSentences::missingAtFirst);
        s.promise(1, "SHEETS", BooksSentences::noSheets);
        s.promise(1, "RULES.", BooksSentences::noRules);
        s.promise(1, "No BOOKS, SHEETS, RULES.", BooksSentences::allAsItIsAtFirst);
        s.promise(1, "No BOOKS, SHEETS, RULES.", BooksSentences::objectsShareNothing);

        s.promise(2, "A BOOK is there, all weights 0", BooksSentences::allWeightsAreNought);
        s.promise(2, "1 if it was there, else 0.", BooksSentences::whetherItWasThere);
        s.promise(2, "BAD.", BooksSentences::bookBad);

        s.promise(3, "The weight of a DEMAND is w: what it was.", BooksSentences::whatItWas);
        s.promise(3, "BAD: w", BooksSentences::weighBad);
        s.promise(3, "NOTHING", BooksSentences::weighNothing);
        s.promise(3, "BEYOND: no such DEMAND.", BooksSentences::weighBeyond);

        s.promise(4, "A BOOK is missing: 1.", BooksSentences::closing);
        s.promise(4, "BAD", due -> due.bounds("close", Made::everything, 0, 3, Counted::close));
        s.promise(4, "NOTHING.", BooksSentences::closeNothing);

        s.promise(5, "n weights of a BOOK, from one on, come to those of another one", BooksSentences::copying);
        s.promise(5, "n weights", BooksSentences::copyOfNoneAndOfAll);
        s.promise(5, "of a BOOK, from one on, come to those of another one", BooksSentences::copyOfAnyToAny);
        s.promise(5, "(perhaps itself) from one on, as if taken ahead: 1.", BooksSentences::copyOntoItself);
        s.promise(5, "BAD", BooksSentences::copyBad);
        s.promise(5, "NOTHING: either", BooksSentences::copyNothing);
        s.promise(5, "BEYOND: not so many there", BooksSentences::copyBeyond);
        s.promise(5, "(a place", BooksSentences::copyFromOrToNoPlace);
        s.promise(5, "n below 0, too).", BooksSentences::copyOfFewerThanNone);

        s.promise(6, "The mean DEMAND of a BOOK, cut.", BooksSentences::means);
        s.promise(6, "BAD", due -> due.bounds("mean", Made::everything, 0, 3, Counted::mean));
        s.promise(6, "NOTHING", due -> due.finds("mean", Made::everything, NOTHING, x -> x.mean(3)));
        s.promise(6, "NOUGHT.", BooksSentences::meanNought);
    }

    private static void booksAreFour(Due due) {
        Counted x = Made.empty();
        for (int b = 0; b < 4; b++) {
            due.is("book " + b, x.book(b), 0);
            due.is("its weight", x.weigh(b, b, b + 1), 0);
        }
        for (int b = 0; b < 4; b++) {
            due.is("each keeps its own weight, " + b, x.weigh(b, b, 0), b + 1);
        }
        due.bad("a fifth", Made::everything, y -> y.book(4));
        due.bad("one ahead of the first", Made::everything, y -> y.book(-1));
    }

    private static void rowsAreOfSeven(Due due) {
        Counted x = Made.weighed(1, 1, 1, 1, 1, 1, 1);
        due.is("all seven count", x.mean(0), 3);
        due.is("a row can be copied whole", x.copy(0, 0, 0, 0, 7), 1);
        due.finds("an eighth", Made::everything, BEYOND, y -> y.weigh(0, 7, 1));
    }

    private static void weightsGoToNine(Due due) {
        Counted x = Made.empty();
        x.book(0);
        due.is("9", x.weigh(0, 3, 9), 0);
        due.is("0", x.weigh(0, 3, 0), 9);
        due.bad("10", Made::everything, y -> y.weigh(0, 3, 10));
        due.bad("-1", Made::everything, y -> y.weigh(0, 3, -1));
    }

    private static void eachDemandHasItsOwnWeight(Due due) {
        for (int d = 0; d <= 6; d++) {
            Counted x = Made.always(d);
            due.is("the mean of " + d + " alone", x.mean(0), d);
        }
    }

    private static void missingAtFirst(Due due) {
        for (int i = 0; i < 4; i++) {
            int b = i;
            due.finds("close", Made::empty, NOTHING, x -> x.close(b));
            due.finds("weigh", Made::empty, NOTHING, x -> x.weigh(b, 0, 0));
            due.finds("mean", Made::empty, NOTHING, x -> x.mean(b));
            due.finds("copy", Made::empty, NOTHING, x -> x.copy(b, 0, b, 0, 0));
            due.is("book", Made.empty().book(b), 0);
        }
    }

    private static void chances(Due due) {
        Counted x = Made.weighed(2, 0, 0, 0, 0, 0, 3);
        x.rule(1, 5, 0);
        x.service(0, 0, 0, 5, 1);
        due.tells("5 do, but for DEMAND 6", x, 2, 5);
        x.weigh(0, 5, 9);
        x.service(0, 0, 0, 5, 1);
        due.tells("W is more by 9", x, 11, 14);
    }

    private static void eachDayAnew(Due due) {
        Counted x = Made.weighed(2, 0, 0, 0, 0, 0, 3);
        x.rule(1, 5, 0);
        x.service(0, 0, 0, 5, 2);
        due.tells("twice", x, 4, 25);
        x.service(0, 0, 0, 5, 6);
        due.tells("six times", x, 64, 15625);
    }

    private static void noSheets(Due due) {
        for (int i = 0; i < 4; i++) {
            int s = i;
            due.finds("tear", Made::empty, NOTHING, x -> x.tear(s));
            due.finds("lay", Made::empty, NOTHING, x -> x.lay(s, 0, 0));
            due.finds("table", Made::empty, NOTHING, x -> x.table(s));
        }
    }

    private static void noRules(Due due) {
        due.is("RULES ever", Made.empty().count(0), 0);
        due.is("RULES there", Made.empty().count(1), 0);
        due.bad("told(0, 0)", Made::empty, x -> x.told(0, 0));
        due.is("the first one's number", Made.empty().rule(1, 0, 0), 0);
    }

    private static void allAsItIsAtFirst(Due due) {
        Counted x = Made.empty();
        due.tells("a new object", x, 0, 1);
        due.is("finding()", x.finding(), 0);
        for (int f = 1; f <= 5; f++) {
            due.is("findings(" + f + ")", x.findings(f), 0);
        }
        due.is("pairTold(0)", x.pairTold(0), SendForMore.NONE);
        due.is("pairTold(1)", x.pairTold(1), SendForMore.NONE);
        due.is("SEEN", x.count(2), 0);
        due.is("forget()", x.forget(), 0);
    }

    private static void objectsShareNothing(Due due) {
        Counted used = Made.fullOfAll();
        long before = used.digest();
        Counted x = Made.empty();
        due.is("digest() of a new one beside it", x.digest(), ToldSentences.digestAtFirst());
        due.is("its finding()", x.finding(), 0);
        due.is("its findings(5)", x.findings(5), 0);
        due.tells("it", x, 0, 1);
        x.book(0);
        x.weigh(0, 0, 5);
        x.sheet(0, 1);
        x.rule(1, 0, 0);
        x.shop(1, 0, false);
        due.is("digest() of the one beside it", used.digest(), before);
    }

    private static void allWeightsAreNought(Due due) {
        for (int b = 0; b < 4; b++) {
            Counted x = Made.empty();
            Made.weigh(x, b, 9, 9, 9, 9, 9, 9, 9);
            due.is("book again", x.book(b), 1);
            Counted never = Made.empty();
            never.book(b);
            due.is("like one that was never weighed", x.digest(), never.digest());
            due.is("the first weight", x.weigh(b, 0, 0), 0);
            due.is("the last weight", x.weigh(b, 6, 0), 0);
            x.weigh(b, 3, 4);
            x.close(b);
            x.book(b);
            due.is("and so after close()", x.digest(), never.digest());
        }
        Counted x = risingAndAnother();
        x.book(2);
        x.book(0);
        weightsAre(due, "another one's stay", x, 1, 9, 0, 9, 0, 9, 0, 9);
    }

    private static void whetherItWasThere(Due due) {
        Counted x = Made.empty();
        due.is("first", x.book(2), 0);
        due.is("again", x.book(2), 1);
        due.is("and again", x.book(2), 1);
        due.is("another one", x.book(1), 0);
        x.close(2);
        due.is("closed", x.book(2), 0);
        due.is("again", x.book(2), 1);
    }

    private static void bookBad(Due due) {
        due.bounds("book", Made::everything, 0, 3, Counted::book);
    }

    private static void whatItWas(Due due) {
        Counted x = Made.empty();
        x.book(1);
        for (int d = 0; d < 7; d++) {
            int was = 0;
            for (int w : new int[] {9, 0, 1, 8, 8}) {
                due.is("weigh(1, " + d + ", " + w + ")", x.weigh(1, d, w), was);
                was = w;
            }
        }
        for (int b = 0; b < 4; b++) {
            Counted all = Made.empty();
            all.book(b);
            for (int d = 0; d < 7; d++) {
                for (int w = 9; w >= 0; w--) {
                    due.is("weigh(" + b + ", " + d + ", " + w + ")", all.weigh(b, d, w), w == 9 ? 0 : w + 1);
                }
            }
        }
    }

    private static void weighBad(Due due) {
        due.bounds("w", Made::everything, 0, 9, (x, w) -> x.weigh(0, 1, w));
        due.bounds("b", Made::everything, 0, 3, (x, b) -> x.weigh(b, 1, 1));
        due.bad("w, though the BOOK is missing", Made::everything, x -> x.weigh(3, 1, 10));
        due.bad("w, though there is no such DEMAND", Made::everything, x -> x.weigh(0, 7, -1));
    }

    private static void weighNothing(Due due) {
        due.finds("a missing BOOK", Made::everything, NOTHING, x -> x.weigh(3, 0, 1));
        due.finds("a missing BOOK and no such DEMAND", Made::everything, NOTHING, x -> x.weigh(3, 7, 1));
        Counted x = Made.everything();
        x.close(0);
        due.is("a closed BOOK", x.weigh(0, 0, 1), SendForMore.FINDING);
        due.is("finding()", x.finding(), NOTHING);
    }

    private static void weighBeyond(Due due) {
        for (int wrong : Numbers.outside(0, 6)) {
            due.finds("DEMAND " + wrong, Made::everything, BEYOND, x -> x.weigh(0, wrong, 1));
        }
        due.is("DEMAND 6 is the last", Made.everything().weigh(0, 6, 1), 4);
        due.is("DEMAND 0 is the first", Made.everything().weigh(0, 0, 2), 1);
    }

    private static void closing(Due due) {
        Counted x = Made.everything();
        due.is("close", x.close(0), 1);
        due.is("close of one without weights", x.close(2), 1);
        due.is("weigh", x.weigh(0, 0, 1), SendForMore.FINDING);
        due.is("mean", x.mean(0), SendForMore.FINDING);
        due.is("copy from it", x.copy(0, 0, 1, 0, 1), SendForMore.FINDING);
        due.is("copy to it", x.copy(1, 0, 0, 0, 1), SendForMore.FINDING);
        due.is("cost", x.cost(1, 0, 0, 1), SendForMore.FINDING);
        due.is("service", x.service(0, 1, 0, 0, 1), SendForMore.FINDING);
        due.is("best", x.best(0, 0, 1), SendForMore.FINDING);
        due.is("bestPair", x.bestPair(0, 0, 1), SendForMore.FINDING);
        due.is("spoilt", x.spoilt(0, 1, 1, 1, true), SendForMore.FINDING);
        due.is("doubt", x.doubt(0, 1, 1, 1), SendForMore.FINDING);
        due.is("close again", x.close(0), SendForMore.FINDING);
        due.is("all NOTHING", x.findings(NOTHING), 11);
        due.is("another one is there still", x.book(1), 1);
    }

    private static void closeNothing(Due due) {
        due.finds("one that never was", Made::everything, NOTHING, x -> x.close(3));
        Counted x = Made.everything();
        x.close(1);
        due.is("twice", x.close(1), SendForMore.FINDING);
        due.is("finding()", x.finding(), NOTHING);
    }

    private static final int[] RISING = {1, 2, 3, 4, 5, 6, 7};

    private static void weightsAre(Due due, String call, Counted x, int b, int... want) {
        for (int d = 0; d < 7; d++) {
            int was = x.weigh(b, d, 0);
            due.is(call + ", weight of " + d, was, want[d]);
            x.weigh(b, d, was);
        }
    }

    private static Counted risingAndAnother() {
        Counted x = Made.weighed(RISING);
        Made.weigh(x, 1, 9, 0, 9, 0, 9, 0, 9);
        return x;
    }

    private static void copying(Due due) {
        Counted x = risingAndAnother();
        due.is("copy(0, 1, 1, 4, 3)", x.copy(0, 1, 1, 4, 3), 1);
        weightsAre(due, "what came", x, 1, 9, 0, 9, 0, 2, 3, 4);
        weightsAre(due, "what it was taken from", x, 0, RISING);
        due.is("copy(1, 0, 0, 6, 1)", x.copy(1, 0, 0, 6, 1), 1);
        weightsAre(due, "the last place", x, 0, 1, 2, 3, 4, 5, 6, 9);
        x.weigh(1, 0, 5);
        weightsAre(due, "they are two rows still", x, 0, 1, 2, 3, 4, 5, 6, 9);
    }

    private static void copyOfNoneAndOfAll(Due due) {
        Counted x = risingAndAnother();
        due.is("none", x.copy(0, 0, 1, 0, 0), 1);
        due.is("none, from behind the last", x.copy(0, 7, 1, 0, 0), 1);
        due.is("none, to behind the last", x.copy(0, 0, 1, 7, 0), 1);
        weightsAre(due, "none came", x, 1, 9, 0, 9, 0, 9, 0, 9);
        due.is("all", x.copy(0, 0, 1, 0, 7), 1);
        weightsAre(due, "all came", x, 1, RISING);
        due.is("all onto itself", x.copy(1, 0, 1, 0, 7), 1);
        weightsAre(due, "all are there", x, 1, RISING);
    }

    private static void copyOfAnyToAny(Due due) {
        for (int b = 0; b < 4; b++) {
            for (int to = 0; to < 4; to++) {
                Counted x = Made.empty();
                Made.weigh(x, to, 9, 9, 9, 9, 9, 9, 9);
                Made.weigh(x, b, RISING);
                due.is("copy(" + b + ", 0, " + to + ", 0, 7)", x.copy(b, 0, to, 0, 7), 1);
                weightsAre(due, "from BOOK " + b, x, b, RISING);
                weightsAre(due, "to BOOK " + to, x, to, RISING);
            }
        }
    }

    private static void copyOntoItself(Due due) {
        for (int from = 0; from < 7; from++) {
            for (int to = 0; to < 7; to++) {
                int n = 7 - Math.max(from, to);
                Counted x = Made.weighed(RISING);
                int[] want = RISING.clone();
                System.arraycopy(RISING, from, want, to, n);
                due.is("copy(0, " + from + ", 0, " + to + ", " + n + ")", x.copy(0, from, 0, to, n), 1);
                weightsAre(due, "from " + from + " to " + to, x, 0, want);
            }
        }
    }

    private static void copyBad(Due due) {
        due.bounds("from", Made::everything, 0, 3, (x, b) -> x.copy(b, 0, 0, 0, 1));
        due.bounds("to", Made::everything, 0, 3, (x, b) -> x.copy(0, 0, b, 0, 1));
        due.bad("from, though the other is missing", Made::everything, x -> x.copy(4, 0, 3, 0, 1));
        due.bad("to, though the other is missing", Made::everything, x -> x.copy(3, 0, 4, 0, 1));
        due.bad("to, though there are not so many", Made::everything, x -> x.copy(0, 0, -1, 0, 8));
    }

    private static void copyNothing(Due due) {
        due.finds("from a missing one", Made::everything, NOTHING, x -> x.copy(3, 0, 0, 0, 1));
        due.finds("to a missing one", Made::everything, NOTHING, x -> x.copy(0, 0, 3, 0, 1));
        due.finds("a missing one onto itself", Made::everything, NOTHING, x -> x.copy(3, 0, 3, 0, 1));
        due.finds("none of a missing one", Made::everything, NOTHING, x -> x.copy(3, 0, 0, 0, 0));
        due.finds("none to a missing one", Made::everything, NOTHING, x -> x.copy(0, 0, 3, 0, 0));
        due.finds("ahead of BEYOND, from", Made::everything, NOTHING, x -> x.copy(3, 0, 0, 0, 8));
        due.finds("ahead of BEYOND, to", Made::everything, NOTHING, x -> x.copy(0, -1, 3, 0, 1));
    }

    private static void copyBeyond(Due due) {
        for (int i = 0; i <= 9; i++) {
            for (int j = 0; j <= 9; j++) {
                Counted x = risingAndAnother();
                for (int n = 0; n <= 9; n++) {
                    boolean fits = i + n <= 7 && j + n <= 7;
                    String call = "copy(0, " + i + ", 1, " + j + ", " + n + ")";
                    due.is(call, x.copy(0, i, 1, j, n), fits ? 1 : SendForMore.FINDING);
                    due.is(call + ", finding()", x.finding(), fits ? 0 : BEYOND);
                }
            }
        }
        int[][] beyond = {{1, 0, 7}, {0, 1, 7}, {0, 0, 8}, {7, 0, 1}, {0, 7, 1}, {0, 0, Numbers.MAX},
            {1, 1, Numbers.MAX}, {7, 7, Numbers.MAX}, {Numbers.MAX, 0, Numbers.MAX}, {0, Numbers.MAX, Numbers.MAX}};
        for (int[] at : beyond) {
            due.finds("from " + at[0] + " to " + at[1] + " of " + at[2], Made::everything, BEYOND,
                x -> x.copy(0, at[0], 1, at[1], at[2]));
            due.finds("the same onto itself", Made::everything, BEYOND, x -> x.copy(0, at[0], 0, at[1], at[2]));
        }
    }

    private static void copyFromOrToNoPlace(Due due) {
        for (int wrong : new int[] {-1, -7, 8, -256, 256, Numbers.MIN, Numbers.MAX}) {
            for (int n : new int[] {0, 1, 7}) {
                due.finds("from " + wrong + " of " + n, Made::everything, BEYOND, x -> x.copy(0, wrong, 1, 0, n));
                due.finds("to " + wrong + " of " + n, Made::everything, BEYOND, x -> x.copy(0, 0, 1, wrong, n));
            }
        }
        due.finds("from one ahead of the first, of 7", Made::everything, BEYOND, x -> x.copy(1, -1, 0, 0, 7));
    }

    private static void copyOfFewerThanNone(Due due) {
        for (int n : new int[] {-1, -7, -256, Numbers.MIN}) {
            due.finds(n + " of them", Made::everything, BEYOND, x -> x.copy(0, 0, 1, 0, n));
            due.finds(n + " of them from 6", Made::everything, BEYOND, x -> x.copy(0, 6, 1, 6, n));
            due.finds(n + " of them from 7", Made::everything, BEYOND, x -> x.copy(0, 7, 1, 7, n));
            due.finds(n + " of them from 8", Made::everything, BEYOND, x -> x.copy(0, 8, 1, 8, n));
        }
    }

    private static void means(Due due) {
        int[][] rows = {{0, 1}, {0, 1, 1}, {3, 1, 0, 0, 0, 0, 0, 1}, {6, 0, 0, 0, 0, 0, 0, 9}, {0, 9, 8},
            {5, 0, 0, 0, 0, 0, 1, 9}, {2, 9, 8, 7, 6, 5, 4, 3}, {3, 9, 9, 9, 9, 9, 9, 9}};
        for (int[] row : rows) {
            int[] weights = new int[row.length - 1];
            System.arraycopy(row, 1, weights, 0, weights.length);
            due.is("the mean, cut", Made.weighed(weights).mean(0), row[0]);
        }
    }

    private static void meanNought(Due due) {
        due.finds("never weighed", Made::everything, NOUGHT, x -> x.mean(2));
        Counted x = Made.always(4);
        x.weigh(0, 4, 0);
        due.is("weighed back to 0", x.mean(0), SendForMore.FINDING);
        due.is("finding()", x.finding(), NOUGHT);
        x.weigh(0, 0, 1);
        due.is("DEMAND 0 alone is enough", x.mean(0), 0);
        due.is("findings(NOUGHT)", x.findings(NOUGHT), 1);
    }
}
