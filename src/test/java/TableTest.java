/** Promises 6 to 14: what is asked of the table and of its pages. */
public final class TableTest {
    private static final Check CHECK = new Check("TableTest");
    /** Three pages: the row 0 (8 lines), the row 1 (10 lines), the rows 2 and 3 (9 lines). */
    private static final String THREE = "T2101r3+10-01n1r3+20+02n1r3+30-03n2r2-05+04h13s00021s02031";
    private static final int[] WRONG = {-1, Integer.MIN_VALUE, Integer.MAX_VALUE};

    public static void main(String[] args) {
        about();
        row();
        amount();
        span();
        note();
        page();
        pageEnds();
        overfullPages();
        keptTogether();
        fullTable();
        sums();
        richest();
        CHECK.finish();
    }

    private static void about() {
        TablePager x = Check.loaded(THREE);
        int[] due = {2, 4, 2, 10, 1, 3, 0, 1};
        for (int what = 0; what <= 7; what++) {
            CHECK.same("about(" + what + ")", x.about(what), due[what]);
        }
        CHECK.argument("about(8)", () -> x.about(8));
        for (int w : WRONG) {
            CHECK.argument("about(" + w + ")", () -> x.about(w));
        }
        x.setHeight(0, 9);
        CHECK.same("about(6) with an overfull page", x.about(6), 1);
        x.setHeight(0, 40);
        CHECK.same("about(5) on one page", x.about(5), 1);
        CHECK.same("about(7) on one page", x.about(7), 0);
        x.setHeight(0, 11);
        CHECK.same("about(5) on two pages", x.about(5), 2);
        CHECK.same("about(7): a span on two pages is cut", x.about(7), 1);
    }

    private static void row() {
        TablePager x = Check.loaded("T1100r3+00n2kr1+00r6+00n6s01021s00010r2+00k");
        int[][] due = {{3, 2, 1, 0, 0}, {1, 0, 0, 1, 0}, {6, 6, 0, 1, 1}, {2, 0, 1, 0, 2}};
        for (int r = 0; r < 4; r++) {
            for (int what = 0; what <= 4; what++) {
                CHECK.same("row(" + r + ", " + what + ")", x.row(r, what), due[r][what]);
            }
            int at = r;
            CHECK.argument("row(" + r + ", -1)", () -> x.row(at, -1));
            CHECK.argument("row(" + r + ", 5)", () -> x.row(at, 5));
        }
        for (int w : WRONG) {
            CHECK.index("row(" + w + ", 0)", () -> x.row(w, 0));
            CHECK.index("row(" + w + ", 5)", () -> x.row(w, 5));
        }
        CHECK.index("row(4, 0)", () -> x.row(4, 0));
        CHECK.index("row(4, -1)", () -> x.row(4, -1));
        cutBehind();
    }

    /** A span that may not be cut holds its rows together, the last one and the one before the first not. */
    private static void cutBehind() {
        TablePager x = Check.loaded("T1400r1+00r1+00r1+00r1+00r1+00r1+00s02040");
        int[] due = {1, 1, 0, 0, 1, 0};
        for (int r = 0; r < 6; r++) {
            CHECK.same("row(" + r + ", 3)", x.row(r, 3), due[r]);
        }
        x.removeSpan(0);
        x.addSpan(2, 4, true);
        x.keep(5, true);
        for (int r = 0; r < 6; r++) {
            CHECK.same("row(" + r + ", 3) with a span that may be cut", x.row(r, 3), r == 5 ? 0 : 1);
        }
        x.addRow(1, 0);
        CHECK.same("row(5, 3) of a row that stays", x.row(5, 3), 0);
        x.keep(5, false);
        CHECK.same("row(5, 3)", x.row(5, 3), 1);
    }

    private static void amount() {
        TablePager x = Check.loaded(THREE);
        int[][] due = {{10, -1}, {20, 2}, {30, -3}, {-5, 4}};
        for (int r = 0; r < 4; r++) {
            CHECK.same("amount(" + r + ", 0)", x.amount(r, 0), due[r][0]);
            CHECK.same("amount(" + r + ", 1)", x.amount(r, 1), due[r][1]);
        }
        for (int w : WRONG) {
            CHECK.index("amount(" + w + ", 0)", () -> x.amount(w, 0));
            CHECK.index("amount(0, " + w + ")", () -> x.amount(0, w));
        }
        CHECK.index("amount(4, 0)", () -> x.amount(4, 0));
        CHECK.index("amount(0, 2)", () -> x.amount(0, 2));
    }

    private static void span() {
        TablePager x = Check.loaded(THREE + "s00010");
        // The third span holds the rows 0 and 1 together, so that their page is overfull.
        int[][] due = {{0, 2, 1, 2}, {2, 3, 1, 1}, {0, 1, 0, 1}};
        for (int s = 0; s < 3; s++) {
            for (int what = 0; what <= 3; what++) {
                CHECK.same("span(" + s + ", " + what + ")", x.span(s, what), due[s][what]);
            }
            int at = s;
            CHECK.argument("span(" + s + ", -1)", () -> x.span(at, -1));
            CHECK.argument("span(" + s + ", 4)", () -> x.span(at, 4));
        }
        for (int w : WRONG) {
            CHECK.index("span(" + w + ", 0)", () -> x.span(w, 0));
            CHECK.index("span(" + w + ", 4)", () -> x.span(w, 4));
        }
        CHECK.index("span(3, 0)", () -> x.span(3, 0));
        CHECK.same("span(0, 3) over three pages", Check.loaded(THREE).span(0, 3), 3);
    }

    private static void note() {
        TablePager x = Check.loaded("T1200h12h23h61");
        int[] due = {2, 3, 1, 1, 1, 1};
        for (int n = 1; n <= 6; n++) {
            CHECK.same("note(" + n + ")", x.note(n), due[n - 1]);
        }
        CHECK.argument("note(0)", () -> x.note(0));
        CHECK.argument("note(7)", () -> x.note(7));
        for (int w : WRONG) {
            CHECK.argument("note(" + w + ")", () -> x.note(w));
        }
    }

    private static void page() {
        TablePager x = Check.loaded(THREE);
        int[][] due = {{0, 0, 8, 2, 0, 1}, {1, 1, 10, 0, 1, 1}, {2, 3, 9, 1, 1, 2}};
        for (int p = 0; p < 3; p++) {
            for (int what = 0; what <= 5; what++) {
                CHECK.same("page(" + p + ", " + what + ")", x.page(p, what), due[p][what]);
            }
            int at = p;
            CHECK.argument("page(" + p + ", -1)", () -> x.page(at, -1));
            CHECK.argument("page(" + p + ", 6)", () -> x.page(at, 6));
        }
        for (int w : WRONG) {
            CHECK.index("page(" + w + ", 0)", () -> x.page(w, 0));
            CHECK.index("page(" + w + ", 6)", () -> x.page(w, 6));
        }
        CHECK.index("page(3, 0)", () -> x.page(3, 0));
        TablePager all = Check.loaded("T1404r1+00n1r1+00n2r1+00n3r1+00n4r1+00n5r1+00n6r1+00n6h63");
        CHECK.same("page(0, 5) with all notes", all.page(0, 5), 63);
        CHECK.same("page(0, 2): each note once", all.page(0, 2), 4 + 7 + 5 + 3);
    }

    /** The last row needs no line for sums carried forward, the first page none for sums brought forward. */
    private static void pageEnds() {
        TablePager x = Check.loaded("T1060r2+00r2+00r2+00");
        CHECK.same("about(5)", x.about(5), 1);
        CHECK.same("page(0, 3)", x.page(0, 3), 0);
        x.addRow(1, 0);
        CHECK.same("about(5) then", x.about(5), 2);
        CHECK.same("page(0, 1)", x.page(0, 1), 1);
        CHECK.same("page(0, 2)", x.page(0, 2), 5);
        CHECK.same("page(1, 2)", x.page(1, 2), 4);
        TablePager y = Check.loaded("T1060r5+00r5+00r5+00r4+00k");
        CHECK.same("about(5)", y.about(5), 4);
        CHECK.same("about(6)", y.about(6), 2);
        CHECK.same("page(1, 2)", y.page(1, 2), 7);
        CHECK.same("page(3, 2)", y.page(3, 2), 5);
    }

    /** An overfull page ends where it first can. */
    private static void overfullPages() {
        TablePager x = Check.loaded("T1064r3+00kr3+00r1+00r1+00n1kr1+00kr1+00h13");
        CHECK.same("about(5)", x.about(5), 3);
        CHECK.same("about(6)", x.about(6), 3);
        int[][] due = {{0, 1, 11, -5}, {2, 2, 7, -1}, {3, 5, 11, -5}};
        for (int p = 0; p < 3; p++) {
            for (int what = 0; what < 4; what++) {
                CHECK.same("page(" + p + ", " + what + ")", x.page(p, what), due[p][what]);
            }
        }
    }

    /** A page ends at the last place to cut that fits, not at the last row that does. */
    private static void keptTogether() {
        TablePager x = Check.loaded("T1080r2+00r2+00kr2+00r2+00s02030");
        CHECK.same("page(0, 1)", x.page(0, 1), 3);
        x.setHeight(1, 2);
        CHECK.same("page(0, 1) with a heading", x.page(0, 1), 0);
        CHECK.same("page(1, 0)", x.page(1, 0), 1);
        CHECK.same("page(1, 1)", x.page(1, 1), 3);
        CHECK.same("page(1, 2)", x.page(1, 2), 9);
        CHECK.same("about(7): a span that may not be cut never is", x.about(7), 0);
    }

    /** As many rows and spans as there may be. */
    private static void fullTable() {
        TablePager x = new TablePager();
        for (int r = 0; r < 24; r++) {
            x.addRow(6, 1);
            x.keep(r, true);
        }
        for (int s = 0; s < 5; s++) {
            x.addSpan(20 + s / 2, 23, true);
        }
        x.addSpan(0, 23, true);
        CHECK.same("about(5), all rows kept together", x.about(5), 1);
        CHECK.same("page(0, 1)", x.page(0, 1), 23);
        CHECK.same("page(0, 2)", x.page(0, 2), 1 + 24 * 6 + 1);
        CHECK.same("row(23, 4)", x.row(23, 4), 0);
        for (int r = 0; r < 24; r++) {
            x.keep(r, false);
        }
        CHECK.same("about(5), two rows a page", x.about(5), 12);
        CHECK.same("about(7)", x.about(7), 5);
        CHECK.same("page(11, 0)", x.page(11, 0), 22);
        CHECK.same("page(11, 4)", x.page(11, 4), 5);
        CHECK.same("page(10, 4)", x.page(10, 4), 1);
        CHECK.same("row(23, 4)", x.row(23, 4), 11);
        CHECK.same("removeSpan(0) of six", x.removeSpan(0), 12);
        CHECK.same("page(11, 4) then", x.page(11, 4), 4);
        CHECK.same("span(4, 0)", x.span(4, 0), 0);
        CHECK.same("row(22, 3)", x.row(22, 3), 1);
        CHECK.same("addSpan(22, 23, false)", x.addSpan(22, 23, false), 5);
        CHECK.same("row(22, 3) in a span that may not be cut", x.row(22, 3), 0);
        CHECK.same("removeRow(23)", x.removeRow(23), 2);
        CHECK.same("page(11, 4) of what is left", x.page(11, 4), 4);
    }

    private static void sums() {
        TablePager x = Check.loaded(THREE);
        int[][] brought = {{0, 0}, {10, -1}, {30, 1}};
        int[][] carried = {{10, -1}, {30, 1}, {55, 2}};
        for (int p = 0; p < 3; p++) {
            for (int c = 0; c < 2; c++) {
                CHECK.same("brought(" + p + ", " + c + ")", x.brought(p, c), brought[p][c]);
                CHECK.same("carried(" + p + ", " + c + ")", x.carried(p, c), carried[p][c]);
            }
        }
        int[][] wrong = {{-1, 0}, {3, 0}, {0, -1}, {0, 2}, {3, 2}, {Integer.MAX_VALUE, 0}, {0, Integer.MIN_VALUE}};
        for (int[] w : wrong) {
            CHECK.index("brought(" + w[0] + ", " + w[1] + ")", () -> x.brought(w[0], w[1]));
            CHECK.index("carried(" + w[0] + ", " + w[1] + ")", () -> x.carried(w[0], w[1]));
        }
        StringBuilder most = new StringBuilder("T1400");
        for (int i = 0; i < 24; i++) {
            most.append("r1-99");
        }
        CHECK.same("carried(0, 0) at its least", Check.loaded(most.toString()).carried(0, 0), -99 * 24);
    }

    private static void richest() {
        TablePager x = Check.loaded(THREE);
        CHECK.same("richest(0)", x.richest(0), 2);
        CHECK.same("richest(1)", x.richest(1), 1);
        x.setAmount(0, 1, 2);
        CHECK.same("richest(1) of two the same", x.richest(1), 0);
        for (int r = 0; r < 4; r++) {
            x.setAmount(r, 0, r == 1 ? -1 : -7);
        }
        CHECK.same("richest(0) below 0", x.richest(0), 1);
        CHECK.index("richest(2)", () -> x.richest(2));
        for (int w : WRONG) {
            CHECK.index("richest(" + w + ")", () -> x.richest(w));
        }
        TablePager none = Check.loaded("T3200");
        CHECK.same("richest(2) without pages", none.richest(2), TablePager.NONE);
        CHECK.index("richest(3) without pages", () -> none.richest(3));
    }
}
