/** Promises 7 to 9, and what the terms say of SHEETS. */
final class SheetsSentences {
    private static final int NOTHING = 1, BEYOND = 2, SIZE = 5;

    private SheetsSentences() {
    }

    static void all(Sentences s) {
        s.terms("SHEETS 0 .. 3", SheetsSentences::sheetsAreFour);
        s.terms("are rows of 0 to 25 bytes", SheetsSentences::sizes);
        s.terms(", or missing (at first).", SheetsSentences::missingAtFirst);

        s.promise(7, "A SHEET is there with n bytes 0: n.", SheetsSentences::bytesAreNought);
        s.promise(7, "with n bytes", SheetsSentences::sizes);
        s.promise(7, "A SHEET is there with n bytes 0", SheetsSentences::anySizeAnew);
        s.promise(7, "BAD: n above 25", SheetsSentences::sheetBad);
        s.promise(7, "SIZE.", SheetsSentences::sheetSize);

        s.promise(8, "Byte i of a SHEET is v, cut to a byte", SheetsSentences::cutToAByte);
        s.promise(8, ": what it was, and 1000 more.", SheetsSentences::whatItWas);
        s.promise(8, "BAD", due -> due.bounds("lay", Made::everything, 0, 3, (x, i) -> x.lay(i, 0, 1)));
        s.promise(8, "NOTHING", SheetsSentences::layNothing);
        s.promise(8, "BEYOND.", SheetsSentences::layBeyond);

        s.promise(9, "A SHEET is missing: 1.", SheetsSentences::tearing);
        s.promise(9, "BAD", due -> due.bounds("tear", Made::everything, 0, 3, Counted::tear));
        s.promise(9, "NOTHING.", SheetsSentences::tearNothing);
    }

    private static void sheetsAreFour(Due due) {
        Counted x = Made.empty();
        for (int i = 0; i < 4; i++) {
            due.is("sheet " + i, x.sheet(i, i + 1), i + 1);
            due.is("its last byte", x.lay(i, i, 10 + i), 1000);
        }
        for (int i = 0; i < 4; i++) {
            due.is("each keeps its own byte, " + i, x.lay(i, i, 0), 1010 + i);
        }
        due.bad("a fifth", Made::everything, y -> y.sheet(4, 1));
        due.bad("one ahead of the first", Made::everything, y -> y.sheet(-1, 1));
    }

    private static void sizes(Due due) {
        for (int n = 0; n <= 25; n++) {
            Counted x = Made.empty();
            due.is("sheet(0, " + n + ")", x.sheet(0, n), n);
            for (int i = 0; i < 25; i++) {
                due.is("byte " + i + " of " + n, x.lay(0, i, 1), i < n ? 1000 : SendForMore.FINDING);
            }
        }
        due.is("one of none is there", emptySheetTorn(), 1);
    }

    private static int emptySheetTorn() {
        Counted x = Made.empty();
        x.sheet(0, 0);
        return x.tear(0);
    }

    private static void missingAtFirst(Due due) {
        for (int i = 0; i < 4; i++) {
            int s = i;
            due.finds("tear", Made::empty, NOTHING, x -> x.tear(s));
        }
    }

    private static void bytesAreNought(Due due) {
        Counted x = Made.empty();
        x.sheet(3, 25);
        for (int i = 0; i < 25; i++) {
            due.is("a new byte", x.lay(3, i, 100 + i), 1000);
        }
        due.is("fewer", x.sheet(3, 3), 3);
        due.is("more again", x.sheet(3, 25), 25);
        for (int i = 0; i < 25; i++) {
            due.is("0 again", x.lay(3, i, -1), 1000);
        }
        x.tear(3);
        x.sheet(3, 25);
        due.is("0 after tear()", x.lay(3, 24, 0), 1000);
    }

    private static void anySizeAnew(Due due) {
        for (int before = 0; before <= 25; before++) {
            for (int n = 0; n <= 25; n++) {
                Counted x = Made.empty();
                x.sheet(1, before);
                for (int i = 0; i < before; i++) {
                    x.lay(1, i, 100);
                }
                due.is("sheet(1, " + n + ") where " + before + " were", x.sheet(1, n), n);
                Counted never = Made.empty();
                never.sheet(1, n);
                due.is("like one that had no others", x.digest(), never.digest());
            }
        }
    }

    private static void sheetBad(Due due) {
        for (int wrong : new int[] {26, 27, 256, 281, 1 << 16, Numbers.MAX}) {
            due.bad("sheet(0, " + wrong + ")", Made::everything, x -> x.sheet(0, wrong));
            due.bad("sheet(3, " + wrong + ")", Made::everything, x -> x.sheet(3, wrong));
        }
        due.bounds("s", Made::everything, 0, 3, (x, i) -> x.sheet(i, 25));
        due.bounds("s of fewer than none", Made::everything, 0, 3, (x, i) -> x.sheet(i, -1));
    }

    private static void sheetSize(Due due) {
        for (int wrong : new int[] {-1, -2, -25, -256, Numbers.MIN, Numbers.MIN + 25}) {
            due.finds("one that is there, " + wrong, Made::everything, SIZE, x -> x.sheet(0, wrong));
            due.finds("one that is missing, " + wrong, Made::everything, SIZE, x -> x.sheet(3, wrong));
        }
        Counted x = Made.everything();
        x.sheet(3, -1);
        due.is("it is missing still", x.tear(3), SendForMore.FINDING);
        x.sheet(0, -1);
        due.is("it is as it was still", x.lay(0, 0, 0), 1005);
    }

    private static void cutToAByte(Due due) {
        int[] values = new int[612];
        for (int i = 0; i < 600; i++) {
            values[i] = i - 300;
        }
        int[] far = {1 << 16, (1 << 16) + 127, (1 << 16) + 128, -(1 << 16) - 1, 1000, -1000, Numbers.MAX, Numbers.MIN,
            Numbers.MAX - 127, Numbers.MIN + 128, 0x7f00, -0x7f01};
        System.arraycopy(far, 0, values, 600, far.length);
        Counted x = null;
        for (int v : values) {
            if (x == null || x.callsLeft() < 2) {
                x = Made.everything();
            }
            x.lay(2, 24, v);
            due.is("byte " + v, x.lay(2, 24, 0), 1000 + (byte) v);
        }
    }

    private static void whatItWas(Due due) {
        Counted x = Made.empty();
        x.sheet(1, 3);
        int[][] rows = {{127, 1000}, {-128, 1127}, {-1, 872}, {0, 999}, {5, 1000}, {5, 1005}};
        for (int[] row : rows) {
            due.is("lay(1, 2, " + row[0] + ")", x.lay(1, 2, row[0]), row[1]);
        }
        due.is("the byte beside it", x.lay(1, 1, 0), 1000);
    }

    private static void layNothing(Due due) {
        due.finds("a missing SHEET", Made::everything, NOTHING, x -> x.lay(3, 0, 1));
        due.finds("a missing SHEET and no such byte", Made::everything, NOTHING, x -> x.lay(3, -1, 1));
        Counted x = Made.everything();
        x.tear(0);
        due.is("a torn SHEET", x.lay(0, 0, 1), SendForMore.FINDING);
        due.is("finding()", x.finding(), NOTHING);
    }

    private static void layBeyond(Due due) {
        for (int wrong : Numbers.outside(0, 3)) {
            due.finds("byte " + wrong + " of 4", Made::everything, BEYOND, x -> x.lay(0, wrong, 1));
        }
        for (int wrong : Numbers.outside(0, 24)) {
            due.finds("byte " + wrong + " of 25", Made::everything, BEYOND, x -> x.lay(2, wrong, 1));
        }
        due.finds("byte 0 of none", Made::everything, BEYOND, x -> x.lay(1, 0, 1));
        due.finds("byte -1 of none", Made::everything, BEYOND, x -> x.lay(1, -1, 1));
        Counted x = Made.empty();
        x.sheet(0, 25);
        x.sheet(0, 2);
        due.is("one that was longer", x.lay(0, 2, 1), SendForMore.FINDING);
        due.is("its last byte", x.lay(0, 1, 1), 1000);
    }

    private static void tearing(Due due) {
        Counted x = Made.everything();
        due.is("tear", x.tear(0), 1);
        due.is("tear of one of none", x.tear(1), 1);
        due.is("lay", x.lay(0, 0, 1), SendForMore.FINDING);
        due.is("table", x.table(0), SendForMore.FINDING);
        due.is("tear again", x.tear(0), SendForMore.FINDING);
        due.is("all NOTHING", x.findings(NOTHING), 3);
        due.is("another one is there still", x.lay(2, 24, 0), 1077);
        due.is("it can be there again", x.sheet(0, 1), 1);
    }

    private static void tearNothing(Due due) {
        due.finds("one that never was", Made::everything, NOTHING, x -> x.tear(3));
        Counted x = Made.everything();
        x.tear(2);
        due.is("twice", x.tear(2), SendForMore.FINDING);
        due.is("finding()", x.finding(), NOTHING);
    }
}
