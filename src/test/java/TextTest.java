/** Promises 2 to 5. */
public final class TextTest {
    private static final int NONE = TablePager.NONE;
    private static final Check CHECK = new Check("TextTest");

    public static void main(String[] args) {
        append();
        clearText();
        headOfText();
        rowsOfText();
        marksAndNotesOfText();
        spansOfText();
        endsOfText();
        loadTable();
        loadForgets();
        loadFails();
        CHECK.finish();
    }

    private static void append() {
        TablePager x = new TablePager();
        CHECK.argument("append(-1)", () -> x.append(-1));
        CHECK.argument("append(256)", () -> x.append(256));
        CHECK.same("append(0)", x.append(0), 1);
        CHECK.same("append(255)", x.append(255), 2);
        for (int i = 3; i <= 160; i++) {
            CHECK.same("append('T')", x.append('T'), i);
        }
        CHECK.state("append('T') behind 160", () -> x.append('T'));
        CHECK.argument("append(-1) behind 160", () -> x.append(-1));
        CHECK.argument("append(256) behind 160", () -> x.append(256));
        CHECK.same("clearText()", x.clearText(), 160);
        CHECK.same("append('T')", x.append('T'), 1);
    }

    private static void clearText() {
        TablePager x = new TablePager();
        CHECK.same("clearText()", x.clearText(), 0);
        Check.type(x, "T1200r1+05");
        CHECK.same("clearText()", x.clearText(), 10);
        CHECK.same("clearText()", x.clearText(), 0);
        CHECK.same("errorPosition()", x.errorPosition(), 0);
        Check.type(x, "T4");
        CHECK.same("errorPosition() behind clearText()", x.errorPosition(), 2);
    }

    private static void due(String text, int position) {
        TablePager x = new TablePager();
        Check.type(x, text);
        CHECK.same("errorPosition() of " + text, x.errorPosition(), position);
        if (position == NONE) {
            x.load();
        } else {
            CHECK.state("load() of " + text, () -> x.load());
        }
    }

    private static void headOfText() {
        due("", 0);
        due("t", 0);
        due(" T1200", 0);
        due("T", 1);
        due("T0", 1);
        due("T5", 1);
        due("T+", 1);
        due("T1", 2);
        due("T14", 3);
        due("T140", 4);
        due("T1400", NONE);
        due("T1399", 4);
        due("T15", 2);
        due("T4404", NONE);
        due("T1060", NONE);
        due("T1050", 3);
        due("T1000", 3);
        due("T1410", 3);
        due("T1490", 3);
        due("T1500", 2);
        due("T1200", NONE);
        due("T1204", NONE);
        due("T1205", 4);
        due("T120/", 4);
        due("T12 0", 3);
        due("T1200 ", 5);
        due("T1200T", 5);
    }

    private static void rowsOfText() {
        due("T1200r", 6);
        due("T1200r0", 6);
        due("T1200r7", 6);
        due("T1200r6", 7);
        due("T1200r605", 7);
        due("T1200r6+", 8);
        due("T1200r6+0", 9);
        due("T1200r6+a0", 8);
        due("T1200r6+0:", 9);
        due("T1200r6+00", NONE);
        due("T1200r1-99", NONE);
        due("T1200r1-00", NONE);
        due("T1200r1+99+99", 10);
        due("T2200r1+99", 10);
        due("T2200r1+99r1+99", 10);
        due("T2200r1+99-01", NONE);
        due("T4200r1+99-01+00-55", NONE);
        due("T4200r1+99-01+00", 16);
        due("T1200R1+00", 5);
        StringBuilder rows = new StringBuilder("T1200");
        for (int i = 0; i < 24; i++) {
            rows.append("r1+00");
        }
        due(rows.toString(), NONE);
        due(rows + "r", 125);
        due(rows + "r1+00", 125);
        due(rows + "k", NONE);
        due(rows + "s22231", NONE);
        due(rows + "s2324", 127);
        due(rows + "s2", 127);
        due(rows + "s3", 126);
    }

    private static void marksAndNotesOfText() {
        due("T1200k", 5);
        due("T1200n1", 5);
        due("T1200h13", NONE);
        due("T1200h", 6);
        due("T1200h0", 6);
        due("T1200h7", 6);
        due("T1200h1", 7);
        due("T1200h10", 7);
        due("T1200h14", 7);
        due("T1200h61h62h63", NONE);
        due("T1200r1+00k", NONE);
        due("T1200r1+00kk", NONE);
        due("T1200r1+00n", 11);
        due("T1200r1+00n0", 11);
        due("T1200r1+00n7", 11);
        due("T1200r1+00n6", NONE);
        due("T1200r1+00n6n1kn2h11", NONE);
    }

    private static void spansOfText() {
        String two = "T1200r1+00r1+00";
        due("T1200s", 5);
        due("T1200r1+00s", 10);
        due("T1200r1+00s00010", 10);
        due(two + "s", 16);
        due(two + "s1", 16);
        due(two + "s0", 17);
        due(two + "s01", 17);
        due(two + "s00", 18);
        due(two + "s001", 18);
        due(two + "s000", 19);
        due(two + "s0000", 19);
        due(two + "s0002", 19);
        due(two + "s0001", 20);
        due(two + "s00012", 20);
        due(two + "s00010", NONE);
        due(two + "s00011", NONE);
        due(two + "s00011r1+00s00021", NONE);
        String six = two + "s00010s00010s00010s00010s00010s00011";
        due(six, NONE);
        due(six + "s", six.length());
        due(six + "s00010", six.length());
        due(six + "r2-05k", NONE);
        StringBuilder twelve = new StringBuilder("T1200");
        for (int i = 0; i < 12; i++) {
            twelve.append("r1+00");
        }
        due(twelve + "s09", 68);
        due(twelve + "s090", 68);
        due(twelve + "s091", 69);
        due(twelve + "s0912", 69);
        due(twelve + "s09101", NONE);
        due(twelve + "s08090", NONE);
        due(twelve + "s0808", 69);
        due(twelve + "s10110", NONE);
        due(twelve + "s1010", 69);
        due(twelve + "s11", 67);
        due(twelve + "s02", 68);
    }

    private static void endsOfText() {
        StringBuilder full = new StringBuilder("T1200");
        while (full.length() < 160) {
            full.append("h11");
        }
        full.setLength(160);
        due(full.toString(), 160);
        StringBuilder fits = new StringBuilder("T1200r1+00");
        while (fits.length() < 160) {
            fits.append("k");
        }
        due(fits.toString(), NONE);
    }

    private static void loadTable() {
        String text = "T3074r2+01-02+99n4n3kr6-99+00-01h31h32s00011r1+00+00+00kks00020";
        TablePager x = Check.loaded(text);
        CHECK.same("load() again", x.load(), 3);
        CHECK.same("clearText() behind load()", x.clearText(), text.length());
        int[] about = {3, 3, 2, 7, 4};
        for (int w = 0; w < 5; w++) {
            CHECK.same("about(" + w + ")", x.about(w), about[w]);
        }
        int[][] rows = {{2, 3, 1, 1, -2}, {6, 0, 0, -99, 0}, {1, 0, 1, 0, 0}};
        for (int r = 0; r < 3; r++) {
            for (int w = 0; w < 3; w++) {
                CHECK.same("row(" + r + ", " + w + ")", x.row(r, w), rows[r][w]);
            }
            CHECK.same("amount(" + r + ", 0)", x.amount(r, 0), rows[r][3]);
            CHECK.same("amount(" + r + ", 1)", x.amount(r, 1), rows[r][4]);
        }
        CHECK.same("amount(0, 2)", x.amount(0, 2), 99);
        CHECK.same("note(3)", x.note(3), 2);
        CHECK.same("note(4)", x.note(4), 1);
        CHECK.same("span(0, 1)", x.span(0, 1), 1);
        CHECK.same("span(0, 2)", x.span(0, 2), 1);
        CHECK.same("span(1, 1)", x.span(1, 1), 2);
        CHECK.same("span(1, 2)", x.span(1, 2), 0);
        TablePager none = Check.loaded("T2064");
        CHECK.same("load() without rows", none.load(), 0);
        CHECK.same("about(0)", none.about(0), 2);
        CHECK.same("about(3)", none.about(3), 6);
        CHECK.same("about(4)", none.about(4), 4);
        CHECK.same("about(5)", none.about(5), 0);
        none.addRow(2, 0);
        CHECK.same("the amounts of a new row", none.amount(0, 1), 0);
    }

    private static void loadForgets() {
        TablePager x = new TablePager();
        x.addRow(3, 2);
        x.addRow(4, 1);
        x.addSpan(0, 1, false);
        x.setHeight(3, 3);
        x.setHeight(1, 4);
        x.setAmount(1, 0, 77);
        x.keep(0, true);
        x.save(0);
        x.save(1);
        Check.type(x, "T1120r1+07");
        CHECK.same("load()", x.load(), 1);
        CHECK.state("undo() behind load()", () -> x.undo());
        CHECK.state("restore(0) behind load()", () -> x.restore(0));
        CHECK.state("restore(1) behind load()", () -> x.restore(1));
        CHECK.same("note(2) is as at first", x.note(2), 1);
        CHECK.same("about(2)", x.about(2), 0);
        CHECK.same("about(3)", x.about(3), 12);
        CHECK.same("about(4)", x.about(4), 0);
        CHECK.same("row(0, 1)", x.row(0, 1), 0);
        CHECK.same("row(0, 2)", x.row(0, 2), 0);
        CHECK.same("amount(0, 0)", x.amount(0, 0), 7);
        x.addRow(1, 0);
        CHECK.same("row(1, 2)", x.row(1, 2), 0);
        CHECK.same("amount(1, 0)", x.amount(1, 0), 0);
        CHECK.same("undo()", x.undo(), 0);
        CHECK.same("about(1)", x.about(1), 1);
    }

    private static void loadFails() {
        TablePager x = Check.loaded("T1120r1+07r2+08");
        x.clearText();
        x.setAmount(0, 0, 9);
        x.save(1);
        Check.type(x, "T2064r1+00");
        String before = Check.portrait(x);
        CHECK.same("errorPosition()", x.errorPosition(), 10);
        CHECK.state("load()", () -> x.load());
        if (!before.equals(Check.portrait(x))) {
            CHECK.tell("load() that throws changes the table");
        }
        CHECK.same("restore(1) behind it", x.restore(1), 2);
        x.setAmount(0, 0, 3);
        CHECK.state("load()", () -> x.load());
        CHECK.same("undo() behind it", x.undo(), 0);
        CHECK.same("the text behind it", x.clearText(), 10);
    }
}
