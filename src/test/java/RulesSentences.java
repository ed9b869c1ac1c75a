/** Promises 10 to 15, and what the terms say of RULES. */
final class RulesSentences {
    private static final int NOTHING = 1, UNLIKE = 3;
    private static final int NONE = SendForMore.NONE, BAD = SendForMore.BAD, FULL = SendForMore.FULL;
    private static final int FINDING = SendForMore.FINDING;
    private static final int LOWEST = -12, HIGHEST = 36;

    private RulesSentences() {
    }

    static void all(Sentences s) {
        s.terms("RULES 0, 1, ..", RulesSentences::numbersRise);
        s.terms("(12 at most ever)", RulesSentences::twelveEver);
        s.terms("are of a KIND: 0 RULE", due -> kindIs(due, Made.TABLE));
        s.terms("1 BASE (a RULE, too: up to S, 0 .. 12)", RulesSentences::bases);
        s.terms("2 PAIR (a BASE: up to S, 0 .. 12, but only at s or below, s -12 .. S - 1)", RulesSentences::pairs);
        s.terms("3 LOT (a RULE: q, 1 .. 12, at r or below, r -12 .. 12)", RulesSentences::lots);
        s.terms("; one of KIND 0 has a table: a SHEET's bytes as they were.", RulesSentences::asTheyWere);
        s.terms("a SHEET's bytes as they were.", RulesSentences::asTheyWereOfAnySize);
        s.terms("A RULE ORDERS by the POSITION P: BASE: S less P", RulesSentences::ordersOfBases);
        s.terms("PAIR: S less P, if P is not above s", RulesSentences::ordersOfPairs);
        s.terms("LOT: q, if P is not above r", RulesSentences::ordersOfLots);
        s.terms("a table: byte P + 12", RulesSentences::ordersOfTables);
        s.terms("(no such: 0).", RulesSentences::noSuchByte);
        s.terms("What would be below 0 is 0", RulesSentences::belowNought);
        s.terms(", above 12 it is 12.", RulesSentences::aboveTwelve);

        s.promise(10, "A RULE of KIND 0 with a SHEET's bytes", RulesSentences::tables);
        s.promise(10, ": its number.", RulesSentences::numbersOfTables);
        s.promise(10, "BAD", due -> due.bounds("table", Made::everything, 0, 3, Counted::table));
        s.promise(10, "FULL", RulesSentences::tableFull);
        s.promise(10, "NOTHING.", RulesSentences::tableNothing);

        s.promise(11, "A RULE of KIND 1 (S; b is not looked at)", RulesSentences::secondIsNotLookedAt);
        s.promise(11, ", 2 (s, S)", RulesSentences::pairIsLowThenTop);
        s.promise(11, ", 3 (r, q)", RulesSentences::lotIsLowThenPieces);
        s.promise(11, ": its number.", RulesSentences::numbersRise);
        s.promise(11, "BAD", RulesSentences::ruleBad);
        s.promise(11, "FULL.", RulesSentences::ruleFull);

        s.promise(12, "A RULE is missing from now on: 1.", RulesSentences::dropping);
        s.promise(12, "BAD", due -> due.bounds("drop", Made::everything, 0, 4, Counted::drop));
        s.promise(12, "BAD", due -> due.bad("drop before any", Made::empty, x -> x.drop(0)));
        s.promise(12, "NOTHING.", due -> due.finds("twice", Made::everything, NOTHING, x -> x.drop(4)));

        s.promise(13, "Of a RULE: 0 its KIND", due -> toldIs(due, 0, 0, 1, 2, 3));
        s.promise(13, "1 S (NONE: it has none)", due -> toldIs(due, 1, NONE, 7, 8, NONE));
        s.promise(13, "2 s or r (NONE)", due -> toldIs(due, 2, NONE, NONE, -3, 4));
        s.promise(13, "3 q (NONE)", due -> toldIs(due, 3, NONE, NONE, NONE, 2));
        s.promise(13, "4 how many bytes its table has (NONE).", RulesSentences::tableSizesTold);
        s.promise(13, "BAD", RulesSentences::toldBad);
        s.promise(13, "NOTHING.", RulesSentences::toldNothing);

        s.promise(14, "What a RULE that IS of a KIND tells: a BASE (a PAIR, too) S", RulesSentences::marksOfBases);
        s.promise(14, "a PAIR how much S is above s", RulesSentences::marksOfPairs);
        s.promise(14, "a LOT q", RulesSentences::marksOfLots);
        s.promise(14, "any (0) its number.", RulesSentences::marksOfAny);
        s.promise(14, "BAD", RulesSentences::markBad);
        s.promise(14, "NOTHING", RulesSentences::markNothing);
        s.promise(14, "UNLIKE.", RulesSentences::markUnlike);

        s.promise(15, "What a RULE ORDERS at a POSITION (-12 .. 36).", RulesSentences::positions);
        s.promise(15, "BAD", RulesSentences::orderBad);
        s.promise(15, "NOTHING.", RulesSentences::orderNothing);
    }

    private static void numbersRise(Due due) {
        Counted x = Made.empty();
        x.sheet(0, 1);
        for (int i = 0; i < 12; i++) {
            due.is("number " + i, i % 4 == 0 ? x.table(0) : x.rule(i % 4, 0, 1), i);
            due.is("RULES ever", x.count(0), i + 1);
        }
        due.is("the last one's KIND", x.told(11, 0), 3);
        due.is("the first one's KIND", x.told(0, 0), 0);
    }

    private static void twelveEver(Due due) {
        Counted x = Made.empty();
        for (int i = 0; i < 12; i++) {
            due.is("rule " + i, x.rule(1, i, 0), i);
            due.is("dropped at once", x.drop(i), 1);
        }
        due.is("one more, though none is there", x.rule(1, 0, 0), FULL);
        due.is("RULES ever", x.count(0), 12);
        due.is("RULES there", x.count(1), 0);
        due.is("there is no RULE 12", x.told(12, 0), BAD);
    }

    private static void kindIs(Due due, int kind) {
        due.is("its KIND", Made.ofAllKinds().told(kind, 0), kind);
    }

    /** Every pair of numbers around the edges, of one KIND. */
    private static void takes(Due due, int kind, Taken taken) {
        for (int a = -14; a <= 14; a++) {
            for (int b = -14; b <= 14; b++) {
                Counted x = Made.empty();
                String call = "rule(" + kind + ", " + a + ", " + b + ")";
                due.is(call, x.rule(kind, a, b), taken.by(a, b) ? 0 : BAD);
                due.is(call + ", count(0)", x.count(0), taken.by(a, b) ? 1 : 0);
            }
        }
    }

    private interface Taken {
        boolean by(int a, int b);
    }

    private static void bases(Due due) {
        kindIs(due, Made.BASE);
        takes(due, 1, (a, b) -> a >= 0 && a <= 12);
        due.bounds("S", Made::everything, 0, 12, (x, v) -> x.rule(1, v, 0));
    }

    private static void pairs(Due due) {
        kindIs(due, Made.PAIR);
        takes(due, 2, (a, b) -> b >= 0 && b <= 12 && a >= -12 && a <= b - 1);
        due.bounds("S", Made::everything, 0, 12, (x, v) -> x.rule(2, -12, v));
        due.bounds("s below 12", Made::everything, -12, 11, (x, v) -> x.rule(2, v, 12));
        due.bounds("s below 0", Made::everything, -12, -1, (x, v) -> x.rule(2, v, 0));
        due.bad("both far too low", Made::everything, x -> x.rule(2, Numbers.MIN, Numbers.MIN));
        due.bad("S less 1 is far too high", Made::everything, x -> x.rule(2, Numbers.MAX, Numbers.MIN));
    }

    private static void lots(Due due) {
        kindIs(due, Made.LOT);
        takes(due, 3, (a, b) -> a >= -12 && a <= 12 && b >= 1 && b <= 12);
        due.bounds("q", Made::everything, 1, 12, (x, v) -> x.rule(3, 0, v));
        due.bounds("r", Made::everything, -12, 12, (x, v) -> x.rule(3, v, 1));
    }

    private static void asTheyWere(Due due) {
        Counted x = Made.empty();
        x.sheet(0, 2);
        x.lay(0, 0, 3);
        x.table(0);
        x.lay(0, 0, 9);
        due.is("the byte is another one", x.order(0, -12), 3);
        due.is("a second one has it", x.table(0), 1);
        due.is("a second one has it", x.order(1, -12), 9);
        x.sheet(0, 25);
        due.is("the SHEET is longer", x.told(0, 4), 2);
        due.is("its bytes are 0", x.order(0, -12), 3);
        x.tear(0);
        due.is("the SHEET is missing", x.order(0, -12), 3);
        due.is("the SHEET is missing", x.order(1, -12), 9);
        x.drop(1);
        due.is("the other one is missing", x.order(0, -12), 3);
    }

    private static void asTheyWereOfAnySize(Due due) {
        for (int n = 1; n <= 25; n++) {
            Counted x = Made.empty();
            x.sheet(3, n);
            for (int i = 0; i < n; i++) {
                x.lay(3, i, 1 + i % 11);
            }
            x.table(3);
            int size = n;
            for (int i = 0; i < n; i++) {
                x.lay(3, i, 12);
            }
            ordersAre(due, x, 0, p -> p + 12 < size ? 1 + (p + 12) % 11 : 0);
            x.sheet(3, n);
            x.tear(3);
            ordersAre(due, x, 0, p -> p + 12 < size ? 1 + (p + 12) % 11 : 0);
        }
    }

    private static void ordersAre(Due due, Counted x, int rule, Ordered ordered) {
        for (int p = LOWEST; p <= HIGHEST; p++) {
            int want = Numbers.within(ordered.at(p), 0, 12);
            due.is(x.told(rule, 0) + " " + x.told(rule, 1) + " " + x.told(rule, 2) + " at " + p, x.order(rule, p), want);
        }
    }

    private interface Ordered {
        int at(int position);
    }

    private static Counted withRule(int kind, int a, int b) {
        Counted x = Made.empty();
        x.rule(kind, a, b);
        return x;
    }

    private static void ordersOfBases(Due due) {
        for (int top = 0; top <= 12; top++) {
            int upTo = top;
            ordersAre(due, withRule(1, top, 0), 0, p -> upTo - p);
        }
    }

    private static void ordersOfPairs(Due due) {
        for (int top = 0; top <= 12; top++) {
            for (int low = -12; low < top; low++) {
                int upTo = top;
                int mark = low;
                ordersAre(due, withRule(2, low, top), 0, p -> p > mark ? 0 : upTo - p);
            }
        }
    }

    private static void ordersOfLots(Due due) {
        for (int pieces = 1; pieces <= 12; pieces++) {
            for (int low = -12; low <= 12; low++) {
                int lot = pieces;
                int mark = low;
                ordersAre(due, withRule(3, low, pieces), 0, p -> p > mark ? 0 : lot);
            }
        }
    }

    private static void ordersOfTables(Due due) {
        Counted x = Made.empty();
        x.sheet(0, 25);
        for (int i = 0; i < 25; i++) {
            x.lay(0, i, i * 5 % 13);
        }
        x.table(0);
        ordersAre(due, x, 0, p -> p <= 12 ? (p + 12) * 5 % 13 : 0);
    }

    private static void noSuchByte(Due due) {
        for (int n = 0; n <= 25; n++) {
            Counted x = Made.empty();
            x.sheet(2, n);
            for (int i = 0; i < n; i++) {
                x.lay(2, i, 7);
            }
            x.table(2);
            int size = n;
            ordersAre(due, x, 0, p -> p + 12 < size ? 7 : 0);
        }
        Counted x = Made.empty();
        x.sheet(2, 25);
        for (int i = 0; i < 25; i++) {
            x.lay(2, i, 127);
        }
        x.table(2);
        ordersAre(due, x, 0, p -> p <= 12 ? 12 : 0);
    }

    private static void belowNought(Due due) {
        Counted x = Made.ofAllKinds();
        due.is("a BASE above S", x.order(1, 8), 0);
        due.is("a BASE at S", x.order(1, 7), 0);
        due.is("a BASE just below S", x.order(1, 6), 1);
        due.is("a BASE far above S", x.order(1, 36), 0);
        due.is("a table's byte -1", x.order(0, -11), 0);
        x.sheet(0, 1);
        x.lay(0, 0, -128);
        x.table(0);
        due.is("a table's byte -128", x.order(5, -12), 0);
        x.lay(0, 0, 200);
        x.table(0);
        due.is("a table's byte 200, cut to -56", x.order(6, -12), 0);
    }

    private static void aboveTwelve(Due due) {
        Counted x = Made.ofAllKinds();
        due.is("a BASE 13 below S", x.order(1, -6), 12);
        due.is("a BASE 12 below S", x.order(1, -5), 12);
        due.is("a BASE 11 below S", x.order(1, -4), 11);
        due.is("a PAIR 20 below S", x.order(2, -12), 12);
        due.is("a PAIR 11 below S", x.order(2, -3), 11);
        due.is("a table's byte 13", x.order(0, -10), 12);
        due.is("a table's byte 12", x.order(0, -9), 12);
        x.sheet(0, 1);
        x.lay(0, 0, 127);
        x.table(0);
        due.is("a table's byte 127", x.order(5, -12), 12);
    }

    private static void tables(Due due) {
        Counted x = Made.everything();
        x.table(2);
        due.is("its KIND", x.told(5, 0), 0);
        due.is("its size", x.told(5, 4), 25);
        due.is("its last byte, 77, cut", x.order(5, 12), 12);
        due.is("its first byte", x.order(5, -12), 0);
        x.table(1);
        due.is("one of no bytes", x.told(6, 4), 0);
        due.is("it ORDERS nothing", x.order(6, -12), 0);
        due.is("the SHEET is there still", x.lay(2, 24, 1), 1077);
    }

    private static void numbersOfTables(Due due) {
        Counted x = Made.everything();
        due.is("behind 5 others", x.table(0), 5);
        due.is("the next one", x.table(0), 6);
        due.is("the next one, of another KIND", x.rule(1, 1, 1), 7);
        x.drop(7);
        due.is("a dropped number is not given again", x.table(0), 8);
    }

    private static void tableFull(Due due) {
        due.full("a thirteenth", Made::fullOfAll, x -> x.table(0));
        due.full("of a missing SHEET", Made::fullOfAll, x -> x.table(3));
        due.bad("of no SHEET", Made::fullOfAll, x -> x.table(4));
        due.bad("of no SHEET", Made::fullOfAll, x -> x.table(-1));
    }

    private static void tableNothing(Due due) {
        due.finds("of a missing SHEET", Made::everything, NOTHING, x -> x.table(3));
        Counted x = Made.everything();
        x.tear(0);
        due.is("of a torn SHEET", x.table(0), FINDING);
        due.is("finding()", x.finding(), NOTHING);
        due.is("no number is lost by it", x.table(2), 5);
    }

    private static void secondIsNotLookedAt(Due due) {
        for (int any : new int[] {Numbers.MIN, -13, -1, 0, 1, 12, 13, 99, Numbers.MAX}) {
            Counted x = Made.empty();
            due.is("rule(1, 0, " + any + ")", x.rule(1, 0, any), 0);
            due.is("rule(1, 12, " + any + ")", x.rule(1, 12, any), 1);
            due.is("S", x.told(1, 1), 12);
            due.is("no s", x.told(1, 2), NONE);
            due.is("no q", x.told(1, 3), NONE);
        }
    }

    private static void pairIsLowThenTop(Due due) {
        Counted x = withRule(2, 3, 9);
        due.is("S", x.told(0, 1), 9);
        due.is("s", x.told(0, 2), 3);
        due.bad("the other way round", Made::everything, y -> y.rule(2, 9, 3));
        due.bad("both the same", Made::everything, y -> y.rule(2, 9, 9));
    }

    private static void lotIsLowThenPieces(Due due) {
        Counted x = withRule(3, 9, 3);
        due.is("r", x.told(0, 2), 9);
        due.is("q", x.told(0, 3), 3);
        due.bad("the other way round", Made::everything, y -> y.rule(3, 9, -3));
    }

    private static void ruleBad(Due due) {
        due.bounds("kind", Made::everything, 1, 3, (x, kind) -> x.rule(kind, 1, 2));
        due.bad("KIND 0 comes by table() alone", Made::everything, x -> x.rule(0, 0, 0));
        due.is("no number is lost by it", numberAfterBad(), 5);
    }

    private static int numberAfterBad() {
        Counted x = Made.everything();
        x.rule(0, 0, 0);
        x.rule(1, 13, 0);
        return x.rule(1, 12, 0);
    }

    private static void ruleFull(Due due) {
        for (int kind = 1; kind <= 3; kind++) {
            int of = kind;
            due.full("a thirteenth", Made::fullOfAll, x -> x.rule(of, 1, 2));
            due.bad("a thirteenth that is none", Made::fullOfAll, x -> x.rule(of, 13, 0));
        }
        due.bad("a thirteenth of no KIND", Made::fullOfAll, x -> x.rule(0, 1, 2));
        Counted x = Made.everything();
        for (int i = 5; i < 11; i++) {
            x.rule(1, 1, 1);
        }
        due.is("the twelfth", x.rule(1, 1, 1), 11);
        due.is("the thirteenth", x.rule(1, 1, 1), FULL);
        x.drop(0);
        due.is("the thirteenth, though one was dropped", x.rule(1, 1, 1), FULL);
    }

    private static void dropping(Due due) {
        Counted x = Made.everything();
        due.is("drop", x.drop(1), 1);
        due.is("told", x.told(1, 0), FINDING);
        due.is("mark", x.mark(1, 0), FINDING);
        due.is("order", x.order(1, 0), FINDING);
        due.is("cost", x.cost(1, 0, 0, 1), FINDING);
        due.is("service", x.service(0, 1, 0, 0, 1), FINDING);
        due.is("drop again", x.drop(1), FINDING);
        due.is("all NOTHING", x.findings(NOTHING), 6);
        due.is("RULES ever", x.count(0), 5);
        due.is("RULES there", x.count(1), 3);
        due.is("the next one's number", x.rule(1, 3, 0), 5);
        due.is("it is missing still", x.told(1, 0), FINDING);
        due.is("the others are there", x.told(2, 0), 2);
        due.is("the first", x.drop(0), 1);
        due.is("the last", x.drop(5), 1);
        due.is("RULES there", x.count(1), 2);
    }

    private static void toldIs(Due due, int what, int... want) {
        Counted x = Made.ofAllKinds();
        for (int rule = 0; rule < want.length; rule++) {
            due.is("told(" + rule + ", " + what + ")", x.told(rule, what), want[rule]);
        }
        Counted edges = Made.empty();
        int[][] rules = {{1, 0, 0}, {1, 12, 0}, {2, -12, 0}, {2, 11, 12}, {3, -12, 12}, {3, 12, 1}, {2, -9, 3}};
        int[][] told = {{1, 1, 2, 2, 3, 3, 2}, {0, 12, 0, 12, NONE, NONE, 3}, {NONE, NONE, -12, 11, -12, 12, -9},
            {NONE, NONE, NONE, NONE, 12, 1, NONE}};
        for (int i = 0; i < rules.length; i++) {
            edges.rule(rules[i][0], rules[i][1], rules[i][2]);
            due.is("told(" + i + ", " + what + ") at the edges", edges.told(i, what), told[what][i]);
        }
    }

    private static void tableSizesTold(Due due) {
        Counted x = Made.ofAllKinds();
        due.is("a table", x.told(0, 4), 4);
        for (int rule = 1; rule <= 3; rule++) {
            due.is("KIND " + rule, x.told(rule, 4), NONE);
        }
        x.sheet(1, 0);
        x.sheet(2, 25);
        due.is("of none", x.told(x.table(1), 4), 0);
        due.is("of 25", x.told(x.table(2), 4), 25);
    }

    private static void toldBad(Due due) {
        due.bounds("what", Made::everything, 0, 4, (x, what) -> x.told(0, what));
        due.bounds("rule", Made::everything, 0, 4, (x, rule) -> x.told(rule, 0));
        due.bounds("what of a dropped one", Made::everything, 0, 4, (x, what) -> x.told(4, what));
        due.bounds("rule of twelve", Made::fullOfAll, 0, 11, (x, rule) -> x.told(rule, 0));
    }

    private static void toldNothing(Due due) {
        for (int what = 0; what <= 4; what++) {
            int of = what;
            due.finds("a dropped one", Made::everything, NOTHING, x -> x.told(4, of));
        }
    }

    private static void marksOfBases(Due due) {
        Counted x = Made.ofAllKinds();
        due.is("a BASE", x.mark(1, 1), 7);
        due.is("a PAIR is a BASE, too", x.mark(2, 1), 8);
        due.is("S 0", withRule(1, 0, 9).mark(0, 1), 0);
        due.is("S 12", withRule(2, -12, 12).mark(0, 1), 12);
    }

    private static void marksOfPairs(Due due) {
        due.is("8 above -3", Made.ofAllKinds().mark(2, 2), 11);
        due.is("the most", withRule(2, -12, 12).mark(0, 2), 24);
        due.is("the least", withRule(2, 11, 12).mark(0, 2), 1);
        due.is("the least, at 0", withRule(2, -1, 0).mark(0, 2), 1);
    }

    private static void marksOfLots(Due due) {
        due.is("a LOT", Made.ofAllKinds().mark(3, 3), 2);
        due.is("the most", withRule(3, -12, 12).mark(0, 3), 12);
        due.is("the least", withRule(3, 12, 1).mark(0, 3), 1);
    }

    private static void marksOfAny(Due due) {
        Counted x = Made.fullOfAll();
        for (int rule = 0; rule < 12; rule++) {
            due.is("mark(" + rule + ", 0)", x.mark(rule, 0), rule == Made.DROPPED_RULE ? FINDING : rule);
        }
        for (int kind = 0; kind <= 3; kind++) {
            Counted alike = Made.empty();
            alike.sheet(0, 3);
            for (int rule = 0; rule < 12; rule++) {
                due.is("the next one", kind == 0 ? alike.table(0) : alike.rule(kind, 4, 5), rule);
                due.is("KIND " + kind + ", mark(" + rule + ", 0)", alike.mark(rule, 0), rule);
            }
        }
    }

    private static void markBad(Due due) {
        due.bounds("kind", Made::everything, 0, 3, (x, kind) -> x.mark(2, kind));
        due.bounds("rule", Made::everything, 0, 4, (x, rule) -> x.mark(rule, 0));
        due.bounds("kind of a dropped one", Made::everything, 0, 3, (x, kind) -> x.mark(4, kind));
    }

    private static void markNothing(Due due) {
        for (int kind = 0; kind <= 3; kind++) {
            int of = kind;
            due.finds("a dropped one", Made::everything, NOTHING, x -> x.mark(4, of));
        }
    }

    private static void markUnlike(Due due) {
        int[][] unlike = {{0, 1}, {0, 2}, {0, 3}, {1, 2}, {1, 3}, {2, 3}, {3, 1}, {3, 2}};
        for (int[] of : unlike) {
            due.finds("KIND " + of[0] + " is no " + of[1], Made::everything, UNLIKE, x -> x.mark(of[0], of[1]));
        }
    }

    private static void positions(Due due) {
        due.bounds("a BASE", Made::everything, -12, 36, (x, p) -> x.order(1, p));
        due.bounds("a table", Made::everything, -12, 36, (x, p) -> x.order(0, p));
        Counted x = Made.everything();
        due.is("the lowest", x.order(3, -12), 2);
        due.is("the highest", x.order(3, 36), 0);
    }

    private static void orderBad(Due due) {
        due.bounds("rule", Made::everything, 0, 4, (x, rule) -> x.order(rule, 0));
        due.bounds("position of a dropped one", Made::everything, -12, 36, (x, p) -> x.order(4, p));
        due.bad("before any", Made::empty, x -> x.order(0, 0));
    }

    private static void orderNothing(Due due) {
        for (int p : new int[] {-12, 0, 36}) {
            due.finds("a dropped one at " + p, Made::everything, NOTHING, x -> x.order(4, p));
        }
    }
}
