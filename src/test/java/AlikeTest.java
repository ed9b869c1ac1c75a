import java.util.Arrays;
import java.util.Set;

/**
 * Runs of calls, the same each time, on the class and on the model: every answer must be alike.
 * The calls are drawn by a counting rule of its own, no random source.
 */
public final class AlikeTest {
    private static final Due due = new Due("AlikeTest");
    private static final int[] EDGES = {Integer.MIN_VALUE, -13, -12, -2, -1, 0, 1, 2, 3, 4, 5, 6, 7, 9, 10, 11, 12, 13,
        25, 26, 36, 37, 100, 101, Integer.MAX_VALUE};
    private static final String[] NAMES = {"book", "weigh", "close", "copy", "mean", "sheet", "lay", "tear", "table",
        "rule", "drop", "told", "mark", "order", "shop", "costs", "cost", "service", "best", "bestPair", "pairTold",
        "spoilt", "see", "forget", "doubt", "count", "findings"};
    /** Of each call: how often it comes, then the least and the most of each number it takes. */
    private static final int[][] RANGES = {{4, 0, 3}, {24, 0, 3, 0, 6, 0, 9}, {1, 0, 3}, {4, 0, 3, 0, 7, 0, 3, 0, 7, 0, 4},
        {3, 0, 3}, {3, 0, 3, -1, 26}, {9, 0, 3, 0, 20, -40, 60}, {1, 0, 3}, {2, 0, 3}, {6, 0, 3, -12, 12, 0, 12},
        {1, 0, 11}, {3, 0, 11, 0, 4}, {6, 0, 11, 0, 3}, {6, 0, 11, -12, 36}, {4, 1, 12, 0, 2, 0, 1},
        {3, 0, 100, 0, 100, 0, 100, 0, 100}, {9, 0, 11, 0, 3, 0, 7, 1, 3}, {9, 0, 2, 0, 11, 0, 3, 0, 7, 1, 3},
        {3, 0, 3, 0, 7, 1, 2}, {1, 0, 3, 0, 7, 1, 2}, {1, 0, 1}, {6, 0, 3, 0, 12, 1, 3, 1, 3, 0, 1}, {4, 0, 6}, {1},
        {6, 0, 3, 0, 3, 1, 9, 1, 9}, {1, 0, 5}, {1, 1, 5}};

    /** The calls that tell a fraction. */
    private static final Set<String> TELLING = Set.of("cost", "service", "best", "bestPair", "spoilt", "doubt");
    private static final int BEST_PAIR = 19;
    private static final int LONGEST_READING = 13;

    private final Counted x = new Counted();
    private final Model m = new Model();
    private long drawn;
    private int asked;

    public static void main(String[] args) {
        for (int run = 0; run < 500; run++) {
            new AlikeTest(run).anyCalls();
        }
        for (int run = 0; run < 200; run++) {
            new AlikeTest(1000 + run).shopsOfFewDemands();
        }
        for (int run = 0; run < 12; run++) {
            new AlikeTest(2000 + run).longestDays(run % 3, run % 2 == 0);
        }
        for (int run = 0; run < 50; run++) {
            new AlikeTest(3000 + run).doubtsOfAllThatCanBe();
        }
        due.end();
    }

    private AlikeTest(long seed) {
        drawn = seed * 7919 + 1;
    }

    private int below(int n) {
        drawn = drawn * 6364136223846793005L + 1442695040888963407L;
        return (int) ((drawn >>> 33) % n);
    }

    private int within(int least, int most) {
        return least + below(most - least + 1);
    }

    private void anyCalls() {
        while (x.callsLeft() > LONGEST_READING) {
            int kind = anyKind();
            int[] a = new int[(RANGES[kind].length - 1) / 2];
            for (int j = 0; j < a.length; j++) {
                boolean edge = below(30) == 0;
                a[j] = edge ? EDGES[below(EDGES.length)] : within(RANGES[kind][2 * j + 1], RANGES[kind][2 * j + 2]);
            }
            // The model walks through every row: not too many days where there may be seven DEMANDS.
            if (kind >= 16 && kind <= 19 && a[a.length - 1] <= 6) {
                a[a.length - 1] = Math.min(a[a.length - 1], kind == BEST_PAIR ? 2 : 4);
            }
            if (kind == 21) {
                a[3] = a[3] > 6 ? a[3] : Math.min(a[3], 4);
            }
            alike(kind, a);
        }
    }

    private int anyKind() {
        int all = 0;
        for (int[] range : RANGES) {
            all += range[0];
        }
        int rest = below(all);
        int kind = 0;
        while (rest >= RANGES[kind][0]) {
            rest -= RANGES[kind][0];
            kind++;
        }
        return kind;
    }

    private void alike(int kind, int... a) {
        String call = NAMES[kind] + Arrays.toString(a);
        long answer = onModel(kind, a);
        due.is(call, onClass(kind, a), answer);
        // Not all is read after each call: an object has 512 calls, and reading it takes some, too.
        asked++;
        boolean all = asked % 12 == 0;
        if (all || TELLING.contains(NAMES[kind])) {
            due.is(call + ", upper()", x.upper(), m.upper());
            due.is(call + ", lower()", x.lower(), m.lower());
        }
        if (all || answer == SendForMore.FINDING) {
            due.is(call + ", finding()", x.finding(), m.finding());
        }
        if (all || asked % 12 == 5) {
            due.is(call + ", digest()", x.digest(), m.digest());
        }
        if (all || kind == BEST_PAIR) {
            due.is(call + ", pairTold(0)", x.pairTold(0), m.pairTold(0));
            due.is(call + ", pairTold(1)", x.pairTold(1), m.pairTold(1));
        }
        for (int f = 1; f <= 5 && all; f++) {
            due.is(call + ", findings(" + f + ")", x.findings(f), m.findings(f));
        }
    }

    /** Two or three DEMANDS have a weight, so that the model can live through six days, too. */
    private void shopsOfFewDemands() {
        int days = within(3, 6);
        alike(0, 0);
        for (int i = 0; i < 3; i++) {
            alike(1, 0, below(7), within(1, 9));
        }
        boolean owed = below(2) == 0;
        int most = below(2) == 0 ? 12 : within(1, 12);
        alike(14, most, below(3), owed ? 1 : 0);
        int dearest = below(2) == 0 ? 5 : 100;
        alike(15, within(0, 40), within(0, dearest), within(0, dearest), within(0, 60));
        alike(5, 0, within(10, 25));
        for (int i = 0; i < 20; i++) {
            alike(6, 0, within(0, 24), below(16) - 2);
        }
        alike(8, 0);
        alike(9, 1, below(13), 0);
        alike(9, 2, within(-6, 3), within(4, 12));
        alike(9, 3, within(-6, 9), within(1, 12));
        for (int rule = 0; rule < 4; rule++) {
            int at = owed ? within(-12, most) : within(0, most);
            alike(16, rule, 0, at, days);
            for (int kind = 0; kind < 3; kind++) {
                alike(17, kind, rule, 0, at, days);
            }
        }
        int at = owed ? within(-12, most) : within(0, most);
        alike(19, 0, at, days);
        alike(18, 0, at, Math.min(days, 4));
        alike(21, 0, below(13), within(1, 3), days, below(2));
    }

    private void longestDays(int lead, boolean owed) {
        alike(0, 2);
        for (int d = 0; d < 7; d++) {
            alike(1, 2, d, within(1, 9));
        }
        int most = within(6, 12);
        alike(14, most, lead, owed ? 1 : 0);
        int dearest = below(2) == 0 ? 9 : 100;
        alike(15, within(0, 100), within(0, dearest), within(0, dearest), within(0, 100));
        alike(9, 2, within(-3, 3), within(4, 12));
        int at = owed ? within(-12, most) : within(0, most);
        alike(16, 0, 2, at, 6);
        alike(17, 0, 0, 2, most, 6);
        alike(17, 1, 0, 2, at, 6);
        alike(17, 2, 0, 2, at, 6);
        alike(18, 2, at, 6);
        alike(19, 2, at, lead == 2 && !owed ? 6 : 3);
        alike(21, 2, within(6, 12), 3, 6, 0);
        alike(21, 2, within(6, 12), 3, 6, 1);
    }

    /** Every DEMAND has a weight, so that no DOUBT is NOUGHT whatever was SEEN. */
    private void doubtsOfAllThatCanBe() {
        for (int book = 0; book < 4; book++) {
            alike(0, book);
            for (int d = 0; d < 7; d++) {
                alike(1, book, d, within(1, 9));
            }
        }
        for (int round = 0; round < 2; round++) {
            for (int count = 0; count <= 6; count++) {
                int p = below(4);
                alike(24, p, (p + within(1, 3)) % 4, within(1, 9), within(1, 9));
                alike(22, below(7));
            }
            alike(23);
        }
    }

    private long onClass(int kind, int[] a) {
        switch (kind) {
            case 0: return x.book(a[0]);
            case 1: return x.weigh(a[0], a[1], a[2]);
            case 2: return x.close(a[0]);
            case 3: return x.copy(a[0], a[1], a[2], a[3], a[4]);
            case 4: return x.mean(a[0]);
            case 5: return x.sheet(a[0], a[1]);
            case 6: return x.lay(a[0], a[1], a[2]);
            case 7: return x.tear(a[0]);
            case 8: return x.table(a[0]);
            case 9: return x.rule(a[0], a[1], a[2]);
            case 10: return x.drop(a[0]);
            case 11: return x.told(a[0], a[1]);
            case 12: return x.mark(a[0], a[1]);
            case 13: return x.order(a[0], a[1]);
            case 14: return x.shop(a[0], a[1], a[2] == 1);
            case 15: return x.costs(a[0], a[1], a[2], a[3]);
            case 16: return x.cost(a[0], a[1], a[2], a[3]);
            case 17: return x.service(a[0], a[1], a[2], a[3], a[4]);
            case 18: return x.best(a[0], a[1], a[2]);
            case 19: return x.bestPair(a[0], a[1], a[2]);
            case 20: return x.pairTold(a[0]);
            case 21: return x.spoilt(a[0], a[1], a[2], a[3], a[4] == 1);
            case 22: return x.see(a[0]);
            case 23: return x.forget();
            case 24: return x.doubt(a[0], a[1], a[2], a[3]);
            case 25: return x.count(a[0]);
            default: return x.findings(a[0]);
        }
    }

    private long onModel(int kind, int[] a) {
        switch (kind) {
            case 0: return m.book(a[0]);
            case 1: return m.weigh(a[0], a[1], a[2]);
            case 2: return m.close(a[0]);
            case 3: return m.copy(a[0], a[1], a[2], a[3], a[4]);
            case 4: return m.mean(a[0]);
            case 5: return m.sheet(a[0], a[1]);
            case 6: return m.lay(a[0], a[1], a[2]);
            case 7: return m.tear(a[0]);
            case 8: return m.table(a[0]);
            case 9: return m.rule(a[0], a[1], a[2]);
            case 10: return m.drop(a[0]);
            case 11: return m.told(a[0], a[1]);
            case 12: return m.mark(a[0], a[1]);
            case 13: return m.order(a[0], a[1]);
            case 14: return m.shop(a[0], a[1], a[2] == 1);
            case 15: return m.costs(a[0], a[1], a[2], a[3]);
            case 16: return m.cost(a[0], a[1], a[2], a[3]);
            case 17: return m.service(a[0], a[1], a[2], a[3], a[4]);
            case 18: return m.best(a[0], a[1], a[2]);
            case 19: return m.bestPair(a[0], a[1], a[2]);
            case 20: return m.pairTold(a[0]);
            case 21: return m.spoilt(a[0], a[1], a[2], a[3], a[4] == 1);
            case 22: return m.see(a[0]);
            case 23: return m.forget();
            case 24: return m.doubt(a[0], a[1], a[2], a[3]);
            case 25: return m.count(a[0]);
            default: return m.findings(a[0]);
        }
    }
}
