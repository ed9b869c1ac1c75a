import java.util.function.Consumer;
import java.util.function.Supplier;

/**
 * What a call that is not refused changes is what its promise says, and nothing beside: each is
 * undone by other calls, and then the object answers as a twin does that was never asked.
 */
final class ApartSentences {
    private ApartSentences() {
    }

    static void all(Sentences s) {
        s.promise(2, "A BOOK is there", due -> undone(due, x -> x.book(3), x -> x.close(3)));
        s.promise(3, "The weight of a DEMAND is w", due -> undone(due, x -> x.weigh(0, 0, 9), x -> x.weigh(0, 0, 1)));
        s.promise(4, "A BOOK is missing", due -> undone(due, x -> x.close(2), x -> x.book(2)));
        s.promise(5, "come to those of another one", due -> undone(due, x -> x.copy(0, 0, 2, 0, 7), x -> x.book(2)));
        s.promise(6, "The mean DEMAND of a BOOK", due -> changesNothing(due, x -> x.mean(0)));
        s.promise(7, "A SHEET is there", due -> undone(due, x -> x.sheet(3, 25), x -> x.tear(3)));
        s.promise(8, "Byte i of a SHEET is v", due -> undone(due, x -> x.lay(0, 0, -9), x -> x.lay(0, 0, 5)));
        s.promise(9, "A SHEET is missing", due -> undone(due, x -> x.tear(1), x -> x.sheet(1, 0)));
        s.promise(10, "A RULE of KIND 0", ApartSentences::aTableMore);
        s.promise(11, "A RULE of KIND 1", ApartSentences::aRuleMore);
        s.promise(12, "A RULE is missing from now on", ApartSentences::aRuleLess);
        s.promise(13, "Of a RULE", due -> changesNothing(due, x -> x.told(2, 1)));
        s.promise(14, "What a RULE that IS of a KIND tells", due -> changesNothing(due, x -> x.mark(2, 1)));
        s.promise(15, "What a RULE ORDERS at a POSITION", due -> changesNothing(due, x -> x.order(1, 0)));
        s.promise(16, "MOST, LEAD, OWED or not", due ->
            undone(due, x -> x.shop(1, 2, false), x -> x.shop(7, 1, true)));
        s.promise(17, "Costs", due -> undone(due, x -> x.costs(9, 8, 7, 6), x -> x.costs(4, 3, 2, 1)));
        s.promise(18, "MEAN COST", due -> undone(due, x -> x.cost(0, 0, -12, 3), Made::tellAFraction));
        for (int kind = 0; kind <= 2; kind++) {
            int of = kind;
            s.promise(19, "SERVICE of a kind", due ->
                undone(due, x -> x.service(of, 1, 1, 7, 3), Made::tellAFraction));
        }
        s.promise(20, "THE BEST", due -> undone(due, x -> x.best(0, 2, 3), Made::tellAFraction));
        s.promise(21, "THE BEST PAIR", ApartSentences::anotherPair);
        s.promise(22, "Of THE BEST PAIR", due -> changesNothing(due, x -> x.pairTold(0)));
        s.promise(23, "SPOILT", due -> undone(due, x -> x.spoilt(0, 12, 3, 4, true), Made::tellAFraction));
        s.promise(24, "A DEMAND was SEEN", due ->
            undoneOn(due, Made::everything, x -> x.see(3), ApartSentences::seeAnew));
        s.promise(25, "None was SEEN", due -> undoneOn(due, Made::everything, Counted::forget, Made::seeTwo));
        s.promise(25, "None was SEEN", due -> undoneOn(due, Made::fullOfAll, Counted::forget, Made::seeSix));
        s.promise(26, "DOUBT", due -> undone(due, x -> x.doubt(1, 0, 9, 1), Made::tellAFraction));
        s.promise(27, "The upper number", due -> changesNothing(due, Counted::upper));
        s.promise(28, "Its lower number", due -> changesNothing(due, Counted::lower));
        s.promise(29, "2 how many were SEEN", due -> changesNothing(due, x -> x.count(2)));
        s.promise(30, "The latest FINDING", due -> changesNothing(due, Counted::finding));
        s.promise(31, "How often a FINDING", due -> changesNothing(due, x -> x.findings(5)));
        s.promise(32, "h = 17; then h = 31 h + v for each v", due -> changesNothing(due, Counted::digest));
    }

    private static void changesNothing(Due due, Consumer<Counted> call) {
        undone(due, call, x -> { });
    }

    private static void undone(Due due, Consumer<Counted> call, Consumer<Counted> undo) {
        undoneOn(due, Made::everything, call, undo);
        undoneOn(due, Made::fullOfAll, call, undo);
    }

    private static void undoneOn(Due due, Supplier<Counted> made, Consumer<Counted> call, Consumer<Counted> undo) {
        Counted x = made.get();
        call.accept(x);
        undo.accept(x);
        Counted twin = made.get();
        due.is("finding()", x.finding(), twin.finding());
        for (int f = 1; f <= 5; f++) {
            due.is("findings(" + f + ")", x.findings(f), twin.findings(f));
        }
        due.alike("done and undone", x, twin);
    }

    private static void seeAnew(Counted x) {
        x.forget();
        Made.seeTwo(x);
    }

    private static void anotherPair(Due due) {
        undone(due, x -> x.bestPair(0, 0, 3), x -> {
            Made.findAPair(x);
            Made.tellAFraction(x);
        });
    }

    /** A RULE can't be undone, but two of them can be given either way round, and one dropped. */
    private static void alikeByRules(Due due, Consumer<Counted> calls, Consumer<Counted> others) {
        Counted x = Made.everything();
        Counted twin = Made.everything();
        calls.accept(x);
        others.accept(twin);
        due.is("finding()", x.finding(), twin.finding());
        due.alike("RULES", x, twin);
    }

    private static void aTableMore(Due due) {
        alikeByRules(due, x -> {
            x.table(2);
            x.drop(5);
        }, x -> {
            x.rule(1, 3, 0);
            x.drop(5);
        });
        Counted x = Made.everything();
        x.table(2);
        due.is("the SHEET's byte", x.lay(2, 24, 0), 1077);
        due.is("the other table", x.order(0, -12), 5);
    }

    private static void aRuleMore(Due due) {
        for (int kind = 1; kind <= 3; kind++) {
            int of = kind;
            alikeByRules(due, x -> {
                x.rule(of, 1, 2);
                x.drop(5);
            }, x -> {
                x.table(1);
                x.drop(5);
            });
        }
    }

    private static void aRuleLess(Due due) {
        alikeByRules(due, x -> {
            x.drop(1);
            x.rule(1, 7, 0);
            x.drop(0);
        }, x -> {
            x.rule(1, 7, 0);
            x.drop(0);
            x.drop(1);
        });
    }
}
