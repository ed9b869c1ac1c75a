/** Objects that tests begin with. */
final class Made {
    /** Of everything(): what is missing, and a BOOK that has no weight above 0. */
    static final int MISSING_BOOK = 3, WEIGHTLESS_BOOK = 2, MISSING_SHEET = 3, DROPPED_RULE = 4;
    static final int TABLE = 0, BASE = 1, PAIR = 2, LOT = 3;

    private Made() {
    }

    static Counted empty() {
        return new Counted();
    }

    static void weigh(Counted x, int book, int... weights) {
        x.book(book);
        for (int d = 0; d < weights.length; d++) {
            if (weights[d] != 0) {
                x.weigh(book, d, weights[d]);
            }
        }
    }

    /** BOOK 0 has these weights, from DEMAND 0 on. */
    static Counted weighed(int... weights) {
        Counted x = new Counted();
        weigh(x, 0, weights);
        return x;
    }

    /** BOOK 0: a DEMAND is always of one size. */
    static Counted always(int demand) {
        Counted x = new Counted();
        x.book(0);
        x.weigh(0, demand, 9);
        return x;
    }

    /** RULE 0 to 3 are of KIND 0 to 3; 4 was dropped. */
    static Counted ofAllKinds() {
        Counted x = new Counted();
        rulesOfAllKinds(x);
        return x;
    }

    private static void rulesOfAllKinds(Counted x) {
        x.sheet(0, 4);
        x.lay(0, 0, 5);
        x.lay(0, 1, -1);
        x.lay(0, 2, 13);
        x.lay(0, 3, 12);
        x.table(0);
        x.rule(1, 7, 99);
        x.rule(2, -3, 8);
        x.rule(3, 4, 2);
        x.rule(1, 1, 1);
        x.drop(DROPPED_RULE);
    }

    /** Nothing is as it is at first, so that whatever a call changes can be seen. */
    static Counted everything() {
        Counted x = new Counted();
        rulesOfAllKinds(x);
        weigh(x, 0, 1, 2, 0, 3, 0, 0, 4);
        weigh(x, 1, 2, 1, 1, 0, 0, 5, 1);
        x.book(WEIGHTLESS_BOOK);
        x.sheet(1, 0);
        x.sheet(2, 25);
        x.lay(2, 24, 77);
        x.shop(7, 1, true);
        findAPair(x);
        seeTwo(x);
        x.sheet(MISSING_SHEET, -1);
        tellAFraction(x);
        return x;
    }

    /** What everything() and fullOfAll() told last. */
    static void tellAFraction(Counted x) {
        x.doubt(0, 1, 4, 3);
    }

    /** THE BEST PAIR of everything(), and then its costs. */
    static void findAPair(Counted x) {
        x.costs(0, 0, 1, 9);
        x.bestPair(1, -2, 2);
        x.costs(4, 3, 2, 1);
    }

    static void seeTwo(Counted x) {
        x.see(0);
        x.see(6);
    }

    static void seeSix(Counted x) {
        seeTwo(x);
        for (int i = 2; i < 6; i++) {
            x.see(i % 2 * 6);
        }
    }

    /** Like everything(), with all RULES given that can be, and all SEEN. */
    static Counted fullOfAll() {
        Counted x = everything();
        for (int i = 5; i < 12; i++) {
            x.rule(1, i, 0);
        }
        x.forget();
        seeSix(x);
        tellAFraction(x);
        return x;
    }
}
