/** Promises 7 to 15: sheet, lay, tear, table, rule, drop, told, mark, order. */
public final class RulesTest {
    private static final Due due = new Due("RulesTest");
    private static final int NONE = SendForMore.NONE;
    private static final int MIN = Integer.MIN_VALUE, MAX = Integer.MAX_VALUE;

    public static void main(String[] args) {
        sheets();
        laying();
        tearing();
        tables();
        rules();
        full();
        dropping();
        telling();
        marks();
        orders();
        due.end();
    }

    private static void sheets() {
        SendForMore x = new SendForMore();
        for (int s = 0; s < 4; s++) {
            due.is("sheet of 25", x.sheet(s, 25), 25);
            due.is("lay", x.lay(s, 24, 7), 1000);
            due.is("sheet again", x.sheet(s, 25), 25);
            due.is("its byte is 0 again", x.lay(s, 24, 0), 1000);
            due.is("sheet of 0", x.sheet(s, 0), 0);
        }
        due.finds("a sheet of 0 has no byte", x, 2, () -> x.lay(0, 0, 1));
        for (int n : new int[] {26, MAX}) {
            due.bad("sheet of " + n, x, () -> x.sheet(0, n));
        }
        for (int n : new int[] {-1, MIN}) {
            due.finds("sheet of " + n, x, 5, () -> x.sheet(0, n));
            due.bad("no such sheet of " + n, x, () -> x.sheet(4, n));
        }
        due.bad("sheet(-1, 1)", x, () -> x.sheet(-1, 1));
        due.bad("sheet(4, 1)", x, () -> x.sheet(4, 1));
    }

    private static void laying() {
        SendForMore x = new SendForMore();
        due.finds("lay without a sheet", x, 1, () -> x.lay(1, 0, 1));
        due.finds("a missing sheet goes ahead of no such byte", x, 1, () -> x.lay(1, -1, 1));
        x.sheet(1, 3);
        int[][] cut = {{127, 127}, {128, -128}, {255, -1}, {256, 0}, {-129, 127}, {MAX, -1}, {MIN, 0}, {-5, -5}};
        int was = 0;
        for (int[] c : cut) {
            due.is("lay " + c[0], x.lay(1, 2, c[0]), was + 1000);
            was = c[1];
        }
        due.is("the last one", x.lay(1, 2, 0), 995);
        for (int i : new int[] {-1, 3, 24, MIN, MAX}) {
            due.finds("lay of byte " + i, x, 2, () -> x.lay(1, i, 1));
        }
        due.bad("lay of sheet 4", x, () -> x.lay(4, 0, 1));
        due.bad("lay of sheet -1", x, () -> x.lay(-1, -1, 1));
    }

    private static void tearing() {
        SendForMore x = new SendForMore();
        due.finds("tear without a sheet", x, 1, () -> x.tear(3));
        x.sheet(3, 0);
        due.is("tear", x.tear(3), 1);
        due.finds("tear twice", x, 1, () -> x.tear(3));
        due.finds("lay after tear", x, 1, () -> x.lay(3, 0, 1));
        due.bad("tear(4)", x, () -> x.tear(4));
        due.bad("tear(-1)", x, () -> x.tear(-1));
    }

    private static void tables() {
        SendForMore x = new SendForMore();
        due.finds("table without a sheet", x, 1, () -> x.table(0));
        due.bad("table(4)", x, () -> x.table(4));
        due.bad("table(-1)", x, () -> x.table(-1));
        x.sheet(0, 2);
        x.lay(0, 0, 3);
        due.is("table", x.table(0), 0);
        x.lay(0, 0, 9);
        due.is("as it was", x.order(0, -12), 3);
        x.sheet(0, 25);
        due.is("as long as it was", x.told(0, 4), 2);
        x.tear(0);
        due.is("as it was, torn", x.order(0, -12), 3);
        x.sheet(1, 0);
        due.is("table of none", x.table(1), 1);
        due.is("its size", x.told(1, 4), 0);
        due.is("its order", x.order(1, -12), 0);
    }

    private static void rules() {
        int[][] fine = {{1, 0, MIN}, {1, 12, MAX}, {2, -12, 0}, {2, -1, 0}, {2, 11, 12}, {2, -12, 12},
            {3, -12, 1}, {3, 12, 12}, {3, 12, 1}};
        SendForMore x = new SendForMore();
        for (int i = 0; i < fine.length; i++) {
            due.is("rule " + i, x.rule(fine[i][0], fine[i][1], fine[i][2]), i);
        }
        int[][] wrong = {{0, 1, 1}, {4, 1, 1}, {-1, 1, 1}, {MIN, 1, 1}, {MAX, 1, 1}, {1, -1, 0}, {1, 13, 0},
            {1, MAX, 0}, {1, MIN, 0}, {2, 0, 0}, {2, 12, 12}, {2, -13, 0}, {2, 0, 13}, {2, -1, -1}, {2, MIN, MIN},
            {2, 5, 4}, {2, MAX, MAX}, {3, -13, 1}, {3, 13, 1}, {3, 0, 0}, {3, 0, 13}, {3, 0, -1}, {3, MIN, MAX}};
        for (int[] r : wrong) {
            due.bad("rule(" + r[0] + ", " + r[1] + ", " + r[2] + ")", x, () -> x.rule(r[0], r[1], r[2]));
        }
    }

    private static void full() {
        SendForMore x = new SendForMore();
        x.sheet(0, 1);
        for (int i = 0; i < 12; i++) {
            due.is("rule " + i, i % 2 == 0 ? x.rule(1, 1, 1) : x.table(0), i);
        }
        due.refuses("a rule too many", x, SendForMore.FULL, () -> x.rule(1, 1, 1));
        due.refuses("a table too many", x, SendForMore.FULL, () -> x.table(0));
        due.refuses("full goes ahead of a missing sheet", x, SendForMore.FULL, () -> x.table(1));
        due.bad("bad goes ahead of full", x, () -> x.rule(0, 1, 1));
        due.bad("bad goes ahead of full", x, () -> x.table(4));
        x.drop(3);
        due.refuses("a number isn't given twice", x, SendForMore.FULL, () -> x.rule(1, 1, 1));
        due.bad("there is no rule 12", x, () -> x.told(12, 0));
        due.is("rules ever", x.count(0), 12);
        due.is("rules there", x.count(1), 11);
    }

    private static void dropping() {
        SendForMore x = new SendForMore();
        due.bad("drop of none", x, () -> x.drop(0));
        x.rule(1, 3, 0);
        due.bad("drop(1)", x, () -> x.drop(1));
        due.bad("drop(-1)", x, () -> x.drop(-1));
        due.bad("drop(MAX)", x, () -> x.drop(MAX));
        due.is("drop", x.drop(0), 1);
        due.finds("drop twice", x, 1, () -> x.drop(0));
        due.finds("told of a dropped one", x, 1, () -> x.told(0, 0));
        due.finds("mark of a dropped one", x, 1, () -> x.mark(0, 2));
        due.finds("order of a dropped one", x, 1, () -> x.order(0, 0));
        due.is("the next number", x.rule(1, 3, 0), 1);
    }

    /** 0 a table of 4 bytes, 1 a BASE, 2 a PAIR, 3 a LOT, 4 dropped. */
    private static SendForMore ofAllKinds() {
        SendForMore x = new SendForMore();
        x.sheet(0, 4);
        x.lay(0, 0, 5);
        x.lay(0, 1, -1);
        x.lay(0, 2, 13);
        x.lay(0, 3, 12);
        x.table(0);
        x.rule(1, 7, 99);
        x.rule(2, -3, 8);
        x.rule(3, 4, 2);
        x.rule(1, 1, 1);
        x.drop(4);
        return x;
    }

    private static void telling() {
        SendForMore x = ofAllKinds();
        int[][] want = {{0, NONE, NONE, NONE, 4}, {1, 7, NONE, NONE, NONE}, {2, 8, -3, NONE, NONE},
            {3, NONE, 4, 2, NONE}};
        for (int r = 0; r < want.length; r++) {
            for (int what = 0; what <= 4; what++) {
                due.is("told(" + r + ", " + what + ")", x.told(r, what), want[r][what]);
            }
        }
        for (int what : new int[] {-1, 5, MIN, MAX}) {
            due.bad("told of " + what, x, () -> x.told(0, what));
            due.bad("told of a dropped one, of " + what, x, () -> x.told(4, what));
        }
        for (int r : new int[] {-1, 5, 12, MIN, MAX}) {
            due.bad("told of rule " + r, x, () -> x.told(r, 0));
        }
    }

    private static void marks() {
        SendForMore x = ofAllKinds();
        int[][] want = {{0, -1, -1, -1}, {1, 7, -1, -1}, {2, 8, 11, -1}, {3, -1, -1, 2}};
        for (int r = 0; r < want.length; r++) {
            for (int k = 0; k <= 3; k++) {
                int rule = r;
                int kind = k;
                if (want[r][k] >= 0) {
                    due.is("mark(" + r + ", " + k + ")", x.mark(r, k), want[r][k]);
                } else {
                    due.finds("mark(" + r + ", " + k + ")", x, 3, () -> x.mark(rule, kind));
                }
            }
        }
        for (int kind : new int[] {-1, 4, MIN, MAX}) {
            due.bad("mark of kind " + kind, x, () -> x.mark(0, kind));
            due.bad("mark of a dropped one, of kind " + kind, x, () -> x.mark(4, kind));
        }
        due.bad("mark of rule 5", x, () -> x.mark(5, 0));
        due.bad("mark of rule -1", x, () -> x.mark(-1, 0));
        due.finds("a dropped one goes ahead of unlike", x, 1, () -> x.mark(4, 3));
        due.finds("a dropped one has no number", x, 1, () -> x.mark(4, 0));
    }

    private static void ordersAre(SendForMore x, int rule, int[][] want) {
        for (int[] w : want) {
            due.is("order(" + rule + ", " + w[0] + ")", x.order(rule, w[0]), w[1]);
        }
    }

    private static void orders() {
        SendForMore x = ofAllKinds();
        ordersAre(x, 0, new int[][] {{-12, 5}, {-11, 0}, {-10, 12}, {-9, 12}, {-8, 0}, {36, 0}});
        ordersAre(x, 1, new int[][] {{-12, 12}, {-6, 12}, {-5, 12}, {-4, 11}, {6, 1}, {7, 0}, {8, 0}, {36, 0}});
        ordersAre(x, 2, new int[][] {{-12, 12}, {-4, 12}, {-3, 11}, {-2, 0}, {7, 0}, {36, 0}});
        ordersAre(x, 3, new int[][] {{-12, 2}, {4, 2}, {5, 0}, {36, 0}});
        for (int p : new int[] {-13, 37, MIN, MAX}) {
            due.bad("order at " + p, x, () -> x.order(1, p));
            due.bad("order of a dropped one at " + p, x, () -> x.order(4, p));
        }
        due.bad("order of rule 5", x, () -> x.order(5, 0));
        due.bad("order of rule -1", x, () -> x.order(-1, 0));
    }
}
