/** Promises 23 to 26: spoilt, see, forget, doubt. Worked out by hand. */
public final class SpoilingAndDoubtTest {
    private static final Due due = new Due("SpoilingAndDoubtTest");
    private static final int MIN = Integer.MIN_VALUE, MAX = Integer.MAX_VALUE;

    public static void main(String[] args) {
        spoiling();
        oldestOrNewest();
        spoilingIsApart();
        spoilingRefused();
        seeing();
        doubts();
        doubtsByLargeNumbers();
        doubtsRefused();
        due.end();
    }

    private static SendForMore always(int demand) {
        SendForMore x = new SendForMore();
        x.book(0);
        x.weigh(0, demand, 3);
        return x;
    }

    private static void spoiltIs(SendForMore x, int s, int age, int days, boolean newest, long upper, long lower) {
        String what = "spoilt(0, " + s + ", " + age + ", " + days + ", " + newest + ")";
        due.is(what, x.spoilt(0, s, age, days, newest), 1);
        due.tells(what, x, upper, lower);
    }

    private static void spoiling() {
        SendForMore x = always(0);
        for (boolean newest : new boolean[] {false, true}) {
            spoiltIs(x, 12, 1, 6, newest, 72, 1);
            spoiltIs(x, 12, 2, 1, newest, 0, 1);
            spoiltIs(x, 12, 2, 6, newest, 36, 1);
            spoiltIs(x, 12, 3, 2, newest, 0, 1);
            spoiltIs(x, 12, 3, 6, newest, 24, 1);
            spoiltIs(x, 0, 1, 6, newest, 0, 1);
        }
        x.weigh(0, 4, 6);
        spoiltIs(x, 5, 1, 1, false, 5 + 2, 3);
        spoiltIs(x, 3, 1, 1, true, 1, 1);
    }

    private static void oldestOrNewest() {
        SendForMore x = always(2);
        spoiltIs(x, 5, 2, 2, false, 1, 1);
        spoiltIs(x, 5, 2, 2, true, 3, 1);
        spoiltIs(x, 5, 2, 3, false, 1, 1);
        spoiltIs(x, 5, 2, 3, true, 3, 1);
        spoiltIs(x, 5, 3, 3, false, 0, 1);
        spoiltIs(x, 5, 3, 3, true, 3, 1);
    }

    private static void spoilingIsApart() {
        SendForMore x = always(1);
        x.shop(1, 2, true);
        x.costs(100, 100, 100, 100);
        spoiltIs(x, 12, 1, 2, false, 22, 1);
    }

    private static void spoilingRefused() {
        SendForMore x = always(1);
        x.book(1);
        due.finds("a missing book", x, 1, () -> x.spoilt(2, 1, 1, 1, true));
        due.finds("all weights 0", x, 4, () -> x.spoilt(1, 1, 1, 1, true));
        for (int wrong : new int[] {-1, 13, MIN, MAX}) {
            due.bad("up to " + wrong, x, () -> x.spoilt(2, wrong, 1, 1, false));
        }
        for (int wrong : new int[] {0, 4, MIN, MAX}) {
            due.bad("age " + wrong, x, () -> x.spoilt(2, 1, wrong, 1, false));
        }
        for (int wrong : new int[] {0, 7, MIN, MAX}) {
            due.bad("days " + wrong, x, () -> x.spoilt(2, 1, 1, wrong, false));
        }
        for (int wrong : new int[] {-1, 4, MIN, MAX}) {
            due.bad("book " + wrong, x, () -> x.spoilt(wrong, 1, 1, 1, false));
        }
    }

    private static void seeing() {
        SendForMore x = new SendForMore();
        due.is("forget before any", x.forget(), 0);
        for (int i = 1; i <= 6; i++) {
            due.is("see", x.see(i), i);
            due.is("how many", x.count(2), i);
        }
        due.refuses("one too many", x, SendForMore.FULL, () -> x.see(0));
        for (int wrong : new int[] {-1, 7, MIN, MAX}) {
            due.bad("see(" + wrong + "), though full", x, () -> x.see(wrong));
        }
        due.is("forget", x.forget(), 6);
        due.is("forget twice", x.forget(), 0);
        due.is("see anew", x.see(0), 1);
    }

    private static void doubtIs(SendForMore x, int p, int q, int u, int v, long upper, long lower) {
        String what = "doubt(" + p + ", " + q + ", " + u + ", " + v + ")";
        due.is(what, x.doubt(p, q, u, v), 1);
        due.tells(what, x, upper, lower);
    }

    private static void doubts() {
        SendForMore x = new SendForMore();
        x.book(0);
        x.book(3);
        x.weigh(0, 0, 1);
        x.weigh(0, 1, 1);
        x.weigh(3, 1, 3);
        x.weigh(3, 2, 1);
        doubtIs(x, 0, 3, 1, 1, 1, 2);
        doubtIs(x, 0, 3, 2, 6, 1, 4);
        doubtIs(x, 0, 3, 9, 1, 9, 10);
        x.see(1);
        doubtIs(x, 0, 3, 1, 1, 2, 5);
        doubtIs(x, 0, 3, 3, 2, 1, 2);
        x.see(1);
        doubtIs(x, 0, 3, 1, 1, 4, 13);
        x.see(2);
        doubtIs(x, 0, 3, 9, 1, 0, 1);
        doubtIs(x, 3, 0, 1, 9, 1, 1);
        x.see(0);
        due.finds("neither can be", x, 4, () -> x.doubt(0, 3, 1, 1));
        x.forget();
        doubtIs(x, 0, 3, 1, 1, 1, 2);
    }

    private static void doubtsByLargeNumbers() {
        SendForMore x = new SendForMore();
        x.book(0);
        x.book(1);
        for (int d = 0; d < 7; d++) {
            x.weigh(0, d, 9);
            x.weigh(1, d, d == 0 ? 8 : 9);
        }
        for (int i = 0; i < 6; i++) {
            x.see(0);
        }
        // 9 (9 * 62)^6 by that and 9 (8 * 63)^6, of which 18^6 and 9 are common: 31^6 by that and 28^6
        doubtIs(x, 0, 1, 9, 9, 887503681L, 887503681L + 481890304L);
    }

    private static void doubtsRefused() {
        SendForMore x = new SendForMore();
        x.book(0);
        x.book(1);
        x.weigh(0, 0, 1);
        due.finds("a missing second", x, 1, () -> x.doubt(0, 2, 1, 1));
        due.finds("a missing first", x, 1, () -> x.doubt(2, 0, 1, 1));
        due.finds("a missing one goes ahead of nought", x, 1, () -> x.doubt(1, 2, 1, 1));
        due.finds("nought of the second", x, 4, () -> x.doubt(0, 1, 1, 1));
        due.finds("nought of the first", x, 4, () -> x.doubt(1, 0, 1, 1));
        due.bad("twice the same", x, () -> x.doubt(0, 0, 1, 1));
        due.bad("twice the same that is missing", x, () -> x.doubt(3, 3, 1, 1));
        for (int wrong : new int[] {-1, 4, MIN, MAX}) {
            due.bad("p " + wrong, x, () -> x.doubt(wrong, 0, 1, 1));
            due.bad("q " + wrong, x, () -> x.doubt(0, wrong, 1, 1));
        }
        for (int wrong : new int[] {0, 10, -1, MIN, MAX}) {
            due.bad("u " + wrong, x, () -> x.doubt(0, 2, wrong, 1));
            due.bad("v " + wrong, x, () -> x.doubt(0, 2, 1, wrong));
        }
    }
}
