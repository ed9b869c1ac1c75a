/** Promises 1 to 6: a new object, book, weigh, close, copy, mean. */
public final class BooksTest {
    private static final Due due = new Due("BooksTest");
    private static final int MIN = Integer.MIN_VALUE, MAX = Integer.MAX_VALUE;

    public static void main(String[] args) {
        newObject();
        books();
        weights();
        closing();
        copying();
        means();
        due.end();
    }

    private static void newObject() {
        SendForMore x = new SendForMore();
        for (int i = 0; i < 4; i++) {
            int b = i;
            due.finds("close of a new object's book", x, 1, () -> x.close(b));
            due.finds("tear of a new object's sheet", x, 1, () -> x.tear(b));
        }
        due.bad("told of a new object's rule", x, () -> x.told(0, 0));
        due.is("count(0)", x.count(0), 0);
        due.is("count(1)", x.count(1), 0);
        due.is("count(2)", x.count(2), 0);
        due.is("count(3)", x.count(3), 12);
        due.is("count(4)", x.count(4), 0);
        due.is("count(5)", x.count(5), 0);
    }

    private static void books() {
        SendForMore x = new SendForMore();
        for (int b = 0; b < 4; b++) {
            due.is("book first", x.book(b), 0);
            due.is("weigh", x.weigh(b, 3, 7), 0);
            due.is("book again", x.book(b), 1);
            due.is("its weight is 0 again", x.weigh(b, 3, 1), 0);
        }
        for (int b : new int[] {-1, 4, MIN, MAX}) {
            due.bad("book(" + b + ")", x, () -> x.book(b));
        }
    }

    private static void weights() {
        SendForMore x = new SendForMore();
        due.finds("weigh without a book", x, 1, () -> x.weigh(0, 0, 1));
        due.finds("a missing book goes ahead of no such demand", x, 1, () -> x.weigh(0, 7, 1));
        x.book(0);
        for (int d = 0; d < 7; d++) {
            due.is("weigh 9", x.weigh(0, d, 9), 0);
            due.is("weigh 0", x.weigh(0, d, 0), 9);
        }
        for (int d : new int[] {-1, 7, MIN, MAX}) {
            due.finds("weigh of demand " + d, x, 2, () -> x.weigh(0, d, 1));
        }
        for (int w : new int[] {-1, 10, MIN, MAX}) {
            due.bad("weight " + w, x, () -> x.weigh(0, 0, w));
            due.bad("weight " + w + " of no demand", x, () -> x.weigh(0, 9, w));
            due.bad("weight " + w + " of a missing book", x, () -> x.weigh(1, 0, w));
        }
        for (int b : new int[] {-1, 4, MIN, MAX}) {
            due.bad("weigh of book " + b, x, () -> x.weigh(b, 0, 1));
        }
    }

    private static void closing() {
        SendForMore x = new SendForMore();
        x.book(2);
        x.weigh(2, 1, 5);
        due.is("close", x.close(2), 1);
        due.finds("close twice", x, 1, () -> x.close(2));
        due.is("book after close", x.book(2), 0);
        due.is("nothing stayed", x.weigh(2, 1, 0), 0);
        due.bad("close(4)", x, () -> x.close(4));
        due.bad("close(-1)", x, () -> x.close(-1));
    }

    private static SendForMore rising(int books) {
        SendForMore x = new SendForMore();
        for (int b = 0; b < books; b++) {
            x.book(b);
            for (int d = 0; d < 7 && b == 0; d++) {
                x.weigh(0, d, d + 1);
            }
        }
        return x;
    }

    private static void weightsAre(String call, SendForMore x, int b, int... want) {
        for (int d = 0; d < 7; d++) {
            int was = x.weigh(b, d, 0);
            due.is(call + ", weight of " + d, was, want[d]);
            x.weigh(b, d, was);
        }
    }

    private static void copying() {
        SendForMore x = rising(2);
        due.is("copy onto itself, up", x.copy(0, 0, 0, 2, 5), 1);
        weightsAre("up", x, 0, 1, 2, 1, 2, 3, 4, 5);
        x = rising(2);
        due.is("copy onto itself, down", x.copy(0, 2, 0, 0, 5), 1);
        weightsAre("down", x, 0, 3, 4, 5, 6, 7, 6, 7);
        due.is("copy to another", x.copy(0, 1, 1, 4, 3), 1);
        weightsAre("another", x, 1, 0, 0, 0, 0, 4, 5, 6);
        weightsAre("its own stay", x, 0, 3, 4, 5, 6, 7, 6, 7);
        due.is("copy all", x.copy(0, 0, 1, 0, 7), 1);
        weightsAre("all", x, 1, 3, 4, 5, 6, 7, 6, 7);
        due.is("copy none", x.copy(0, 0, 1, 0, 0), 1);
        due.is("copy none behind the last", x.copy(0, 7, 1, 7, 0), 1);
        copyingRefused(rising(2));
    }

    private static void copyingRefused(SendForMore x) {
        int[][] beyond = {{8, 0, 0}, {0, 8, 0}, {-1, 0, 1}, {0, -1, 1}, {0, 0, -1}, {0, 0, 8}, {1, 0, 7}, {0, 1, 7},
            {MAX, 0, MAX}, {0, MAX, MAX}, {MIN, 0, MIN}, {-1, 0, 0}, {7, 0, 1}, {0, 7, 1}, {MAX, MAX, 1}, {1, 1, MAX}};
        for (int[] at : beyond) {
            due.finds("copy from " + at[0] + " to " + at[1] + " of " + at[2], x, 2,
                () -> x.copy(0, at[0], 1, at[1], at[2]));
            due.finds("a missing book goes ahead", x, 1, () -> x.copy(0, at[0], 2, at[1], at[2]));
            due.finds("a missing book goes ahead", x, 1, () -> x.copy(2, at[0], 0, at[1], at[2]));
        }
        due.bad("copy from book 4", x, () -> x.copy(4, 0, 0, 0, 1));
        due.bad("copy to book -1", x, () -> x.copy(3, 0, -1, 0, 1));
    }

    private static void means() {
        SendForMore x = new SendForMore();
        due.finds("mean without a book", x, 1, () -> x.mean(0));
        x.book(0);
        due.finds("mean of none", x, 4, () -> x.mean(0));
        x.weigh(0, 0, 1);
        due.is("mean of 0", x.mean(0), 0);
        x.weigh(0, 6, 1);
        due.is("mean of 0, 6", x.mean(0), 3);
        x.weigh(0, 5, 1);
        due.is("11 by 3, cut", x.mean(0), 3);
        x.weigh(0, 0, 0);
        due.is("11 by 2, cut", x.mean(0), 5);
        due.bad("mean(4)", x, () -> x.mean(4));
        due.bad("mean(-1)", x, () -> x.mean(-1));
    }
}
