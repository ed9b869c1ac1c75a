/** Promises 24 to 26, and what the terms say of what was SEEN, and of DOUBT. */
final class DoubtSentences {
    private static final int NOTHING = 1, NOUGHT = 4;
    private static final int FULL = SendForMore.FULL;

    private DoubtSentences() {
    }

    static void all(Sentences s) {
        s.terms("SEEN: DEMANDS that were seen (6 at most).", DoubtSentences::sixAtMost);
        s.terms("DOUBT: the chance that it is BOOK p and not BOOK q", DoubtSentences::oneAndNotTheOther);
        s.terms(", if it was u by v to begin with", DoubtSentences::toBeginWith);
        s.terms("(u, v 1 .. 9)", DoubtSentences::oddsEdges);
        s.terms("and they were SEEN, each by the chances of the BOOK.", DoubtSentences::byWhatWasSeen);

        s.promise(24, "A DEMAND was SEEN: how many.", DoubtSentences::howMany);
        s.promise(24, "BAD", due -> due.bounds("see", Made::everything, 0, 6, Counted::see));
        s.promise(24, "FULL.", DoubtSentences::seeFull);

        s.promise(25, "None was SEEN: how many were.", DoubtSentences::forgetting);

        s.promise(26, "DOUBT, told by upper(), lower(): 1.", DoubtSentences::largestNumbers);
        s.promise(26, "BAD", DoubtSentences::bad);
        s.promise(26, ": also twice the same", DoubtSentences::twiceTheSame);
        s.promise(26, "NOTHING: either", DoubtSentences::nothing);
        s.promise(26, "NOUGHT: of either", DoubtSentences::noughtOfEither);
        s.promise(26, ", or neither can be.", DoubtSentences::neitherCanBe);
    }

    private static void doubtIs(Due due, Counted x, int p, int q, int u, int v, long... told) {
        String what = "doubt(" + p + ", " + q + ", " + u + ", " + v + ")";
        due.is(what, x.doubt(p, q, u, v), 1);
        due.tells(what, x, told[0], told[1]);
    }

    /** BOOK 0: DEMAND 0 or 1; BOOK 3: thrice as often 1 as 2. */
    private static Counted twoBooks() {
        Counted x = Made.weighed(1, 1);
        Made.weigh(x, 3, 0, 3, 1);
        return x;
    }

    private static void sixAtMost(Due due) {
        Counted x = twoBooks();
        for (int i = 1; i <= 6; i++) {
            due.is("see", x.see(1), i);
        }
        doubtIs(due, x, 0, 3, 1, 1, 64, 64 + 729);
        due.is("a seventh", x.see(1), FULL);
        doubtIs(due, x, 0, 3, 1, 1, 64, 64 + 729);
        due.is("six still", x.count(2), 6);
    }

    private static void oneAndNotTheOther(Due due) {
        Counted x = twoBooks();
        x.see(1);
        doubtIs(due, x, 0, 3, 1, 1, 2, 5);
        doubtIs(due, x, 3, 0, 1, 1, 3, 5);
        x.see(0);
        doubtIs(due, x, 0, 3, 1, 1, 1, 1);
        doubtIs(due, x, 3, 0, 1, 1, 0, 1);
        Counted alike = Made.weighed(2, 4);
        Made.weigh(alike, 1, 1, 2);
        alike.see(1);
        doubtIs(due, alike, 0, 1, 1, 1, 1, 2);
    }

    private static void toBeginWith(Due due) {
        Counted x = twoBooks();
        doubtIs(due, x, 0, 3, 1, 1, 1, 2);
        doubtIs(due, x, 0, 3, 2, 6, 1, 4);
        doubtIs(due, x, 0, 3, 9, 1, 9, 10);
        doubtIs(due, x, 3, 0, 9, 1, 9, 10);
        x.see(1);
        doubtIs(due, x, 0, 3, 3, 2, 1, 2);
        doubtIs(due, x, 3, 0, 2, 3, 1, 2);
    }

    private static void oddsEdges(Due due) {
        Counted x = twoBooks();
        for (int u = 1; u <= 9; u += 4) {
            for (int v = 1; v <= 9; v += 4) {
                int common = u == v ? u : 1;
                doubtIs(due, x, 0, 3, u, v, u / common, (u + v) / common);
            }
        }
        due.bounds("u", Made::everything, 1, 9, (y, u) -> y.doubt(0, 1, u, 1));
        due.bounds("v", Made::everything, 1, 9, (y, v) -> y.doubt(0, 1, 1, v));
    }

    private static void byWhatWasSeen(Due due) {
        Counted x = twoBooks();
        x.see(1);
        x.see(1);
        doubtIs(due, x, 0, 3, 1, 1, 4, 13);
        x.weigh(0, 1, 3);
        doubtIs(due, x, 0, 3, 1, 1, 1, 2);
        x.see(2);
        doubtIs(due, x, 0, 3, 9, 1, 0, 1);
        doubtIs(due, x, 3, 0, 1, 9, 1, 1);
        x.weigh(0, 2, 4);
        // 3, 3, 4 of 8 each, or 3, 3, 1 of 4 each: 36 by 36 and 72
        doubtIs(due, x, 0, 3, 1, 1, 1, 3);
    }

    private static void howMany(Due due) {
        Counted x = Made.empty();
        for (int d = 0; d < 6; d++) {
            due.is("see(" + d + ")", x.see(d), d + 1);
            due.is("count(2)", x.count(2), d + 1);
        }
        Counted last = Made.empty();
        due.is("see(6)", last.see(6), 1);
        due.is("the same again", last.see(6), 2);
        due.is("DEMAND 0", last.see(0), 3);
    }

    private static void seeFull(Due due) {
        for (int d = 0; d <= 6; d++) {
            int demand = d;
            due.full("a seventh, " + d, Made::fullOfAll, x -> x.see(demand));
        }
        for (int wrong : Numbers.outside(0, 6)) {
            due.bad("a seventh that is none, " + wrong, Made::fullOfAll, x -> x.see(wrong));
        }
        Counted x = Made.fullOfAll();
        x.forget();
        due.is("no longer", x.see(0), 1);
    }

    private static void forgetting(Due due) {
        Counted x = twoBooks();
        due.is("before any", x.forget(), 0);
        for (int round = 0; round < 8; round++) {
            for (int i = 0; i < 6; i++) {
                x.see(1);
            }
            due.is("six", x.forget(), 6);
            due.is("none", x.forget(), 0);
            due.is("count(2)", x.count(2), 0);
        }
        doubtIs(due, x, 0, 3, 1, 1, 1, 2);
        due.is("anew", x.see(0), 1);
        doubtIs(due, x, 0, 3, 1, 1, 1, 1);
        due.is("one", x.forget(), 1);
    }

    private static void largestNumbers(Due due) {
        Counted x = Made.weighed(9, 9, 9, 9, 9, 9, 9);
        Made.weigh(x, 1, 8, 9, 9, 9, 9, 9, 9);
        for (int i = 0; i < 6; i++) {
            x.see(0);
        }
        // 9 (9 * 62)^6 by that and 9 (8 * 63)^6, of which 18^6 and 9 are common: 31^6 by that and 28^6
        doubtIs(due, x, 0, 1, 9, 9, 887503681L, 887503681L + 481890304L);
        doubtIs(due, x, 0, 1, 9, 8, 9 * 887503681L, 9 * 887503681L + 8 * 481890304L);
    }

    private static void bad(Due due) {
        due.bounds("p", Made::everything, 0, 3, (x, p) -> x.doubt(p, p == 3 ? 0 : 3, 1, 1));
        due.bounds("q", Made::everything, 0, 3, (x, q) -> x.doubt(q == 3 ? 0 : 3, q, 1, 1));
        due.bounds("u by a missing BOOK", Made::everything, 1, 9, (x, u) -> x.doubt(0, 3, u, 1));
        due.bounds("v by a missing BOOK", Made::everything, 1, 9, (x, v) -> x.doubt(3, 0, 1, v));
        due.bounds("u by a BOOK of 0", Made::everything, 1, 9, (x, u) -> x.doubt(0, 2, u, 1));
    }

    private static void twiceTheSame(Due due) {
        for (int b = 0; b < 4; b++) {
            int same = b;
            due.bad("BOOK " + b, Made::everything, x -> x.doubt(same, same, 1, 1));
        }
    }

    private static void nothing(Due due) {
        due.finds("p", Made::everything, NOTHING, x -> x.doubt(3, 0, 1, 1));
        due.finds("q", Made::everything, NOTHING, x -> x.doubt(0, 3, 1, 1));
        due.finds("p, ahead of NOUGHT", Made::everything, NOTHING, x -> x.doubt(3, 2, 1, 1));
        due.finds("q, ahead of NOUGHT", Made::everything, NOTHING, x -> x.doubt(2, 3, 1, 1));
        due.finds("both", Made::empty, NOTHING, x -> x.doubt(0, 1, 1, 1));
    }

    private static void noughtOfEither(Due due) {
        due.finds("p", Made::everything, NOUGHT, x -> x.doubt(2, 0, 1, 1));
        due.finds("q", Made::everything, NOUGHT, x -> x.doubt(0, 2, 1, 1));
        Counted x = twoBooks();
        x.book(1);
        due.is("q, though none was SEEN", x.doubt(0, 1, 1, 1), SendForMore.FINDING);
        due.is("p, though none was SEEN", x.doubt(1, 0, 1, 1), SendForMore.FINDING);
        x.book(2);
        due.is("both", x.doubt(1, 2, 1, 1), SendForMore.FINDING);
        due.is("findings(NOUGHT)", x.findings(NOUGHT), 3);
    }

    private static Counted seenByNeither() {
        Counted x = Made.everything();
        x.forget();
        x.see(4);
        return x;
    }

    private static void neitherCanBe(Due due) {
        due.finds("DEMAND 4", DoubtSentences::seenByNeither, NOUGHT, x -> x.doubt(0, 1, 9, 9));
        Counted x = twoBooks();
        x.see(0);
        x.see(2);
        due.is("each can be by one alone", x.doubt(0, 3, 1, 1), SendForMore.FINDING);
        due.is("finding()", x.finding(), NOUGHT);
        x.forget();
        x.see(0);
        due.is("one can be", x.doubt(0, 3, 1, 1), 1);
    }
}
