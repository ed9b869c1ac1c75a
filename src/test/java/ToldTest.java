/** Promises 27 to 32: upper, lower, count, finding, findings, digest. */
public final class ToldTest {
    private static final Due due = new Due("ToldTest");
    private static final int MIN = Integer.MIN_VALUE, MAX = Integer.MAX_VALUE;

    public static void main(String[] args) {
        fractions();
        counts();
        findings();
        digestOfANewObject();
        digestOfAll();
        due.end();
    }

    private static void fractions() {
        SendForMore x = new SendForMore();
        due.tells("before any", x, 0, 1);
        x.book(0);
        x.weigh(0, 0, 2);
        x.weigh(0, 1, 4);
        x.book(1);
        x.weigh(1, 0, 1);
        due.tells("a mark tells none", x, 0, 1);
        x.doubt(0, 1, 6, 9);
        due.tells("in lowest terms", x, 2, 5);
        due.is("a mean is told by its answer", x.mean(0), 0);
        due.tells("so it stays", x, 2, 5);
        x.spoilt(0, 1, 1, 1, true);
        due.tells("the last one", x, 1, 3);
        x.doubt(0, 1, 0, 9);
        due.tells("a refused one tells none", x, 1, 3);
        x.costs(0, 0, 0, 0);
        x.best(0, 0, 6);
        due.tells("0 by 1", x, 0, 1);
        x.bestPair(0, 1, 6);
        due.tells("0 by 1", x, 0, 1);
    }

    private static void counts() {
        SendForMore x = new SendForMore();
        x.rule(1, 1, 1);
        x.rule(1, 1, 1);
        x.rule(3, 1, 1);
        x.drop(1);
        x.see(4);
        x.shop(7, 1, true);
        int[] want = {3, 2, 1, 7, 1, 1};
        for (int what = 0; what < want.length; what++) {
            due.is("count(" + what + ")", x.count(what), want[what]);
        }
        for (int wrong : new int[] {-1, 6, MIN, MAX}) {
            due.bad("count(" + wrong + ")", x, () -> x.count(wrong));
        }
    }

    private static void findings() {
        SendForMore x = new SendForMore();
        due.is("finding before any", x.finding(), 0);
        x.close(0);
        due.is("NOTHING", x.finding(), 1);
        x.book(0);
        x.weigh(0, 7, 0);
        due.is("BEYOND", x.finding(), 2);
        x.rule(1, 1, 1);
        x.mark(0, 3);
        due.is("UNLIKE", x.finding(), 3);
        x.mean(0);
        x.mean(0);
        due.is("NOUGHT", x.finding(), 4);
        x.sheet(0, -1);
        due.is("SIZE", x.finding(), 5);
        x.book(9);
        due.is("BAD is no FINDING", x.finding(), 5);
        x.close(0);
        x.close(0);
        due.is("the latest", x.finding(), 1);
        int[] want = {0, 2, 1, 1, 2, 1};
        for (int f = 1; f <= 5; f++) {
            due.is("findings(" + f + ")", x.findings(f), want[f]);
        }
        for (int wrong : new int[] {0, 6, -1, MIN, MAX}) {
            due.bad("findings(" + wrong + ")", x, () -> x.findings(wrong));
        }
    }

    private static long fold(long... values) {
        long h = 17;
        for (long v : values) {
            h = 31 * h + v;
        }
        return h;
    }

    private static void digestOfANewObject() {
        SendForMore x = new SendForMore();
        due.is("digest", x.digest(), fold(0, 0, 0, 12, 0, 0, 10, 1, 1, 5, -1, -1, -1, -1, -1, -1, -1, -1));
        x.close(0);
        x.mean(9);
        due.is("what is refused isn't in it", x.digest(),
            fold(0, 0, 0, 12, 0, 0, 10, 1, 1, 5, -1, -1, -1, -1, -1, -1, -1, -1));
    }

    private static void digestOfAll() {
        SendForMore x = new SendForMore();
        x.shop(5, 2, true);
        x.costs(4, 3, 2, 1);
        x.see(6);
        x.book(1);
        x.weigh(1, 0, 9);
        x.weigh(1, 6, 8);
        x.book(3);
        x.sheet(0, 0);
        x.sheet(2, 3);
        x.lay(2, 0, -7);
        x.lay(2, 2, 200);
        x.table(2);
        x.rule(2, -9, 4);
        x.rule(1, 4, 4);
        x.rule(3, 12, 1);
        x.drop(2);
        due.is("digest", x.digest(), fold(4, 3, 1, 5, 2, 1, 4, 3, 2, 1,
            -1, 9, 0, 0, 0, 0, 0, 8, -1, 0, 0, 0, 0, 0, 0, 0,
            0, -9, -9, -9, 3, 2, 4, -9, -9, -9, -1, 3, -9, 12, 1, -9,
            0, -1, 3, -7, 0, -56, -1));
    }
}
