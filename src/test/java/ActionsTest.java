/** Promises 15 to 22. */
public final class ActionsTest {
    private static final Check CHECK = new Check("ActionsTest");
    private static final int[] WRONG = {-1, Integer.MIN_VALUE, Integer.MAX_VALUE};

    public static void main(String[] args) {
        addRow();
        setAmount();
        keep();
        removeRow();
        removeRowFromSpans();
        addSpan();
        removeSpan();
        setHeight();
        setHeightFails();
        undo();
        undoTakesAllBack();
        actionsThatChangeNothing();
        failedCallsChangeNothing();
        CHECK.finish();
    }

    private static TablePager rows(int n) {
        TablePager x = new TablePager();
        for (int i = 0; i < n; i++) {
            x.addRow(1 + i % 6, 0);
        }
        return x;
    }

    private static void addRow() {
        TablePager x = Check.loaded("T3200r1+11+12+13k");
        CHECK.same("addRow(6, 6)", x.addRow(6, 6), 1);
        CHECK.same("addRow(1, 0)", x.addRow(1, 0), 2);
        int[][] due = {{1, 0, 1}, {6, 6, 0}, {1, 0, 0}};
        for (int r = 0; r < 3; r++) {
            for (int what = 0; what < 3; what++) {
                CHECK.same("row(" + r + ", " + what + ")", x.row(r, what), due[r][what]);
                CHECK.same("amount(" + r + ", " + what + ")", x.amount(r, what), r == 0 ? 11 + what : 0);
            }
        }
        int[][] wrong = {{0, 0}, {7, 0}, {1, -1}, {1, 7}, {Integer.MIN_VALUE, 0}, {1, Integer.MAX_VALUE}};
        TablePager full = rows(24);
        CHECK.same("about(1)", full.about(1), 24);
        for (int[] w : wrong) {
            CHECK.argument("addRow(" + w[0] + ", " + w[1] + ")", () -> x.addRow(w[0], w[1]));
            CHECK.argument("addRow(" + w[0] + ", " + w[1] + ") when full", () -> full.addRow(w[0], w[1]));
        }
        CHECK.state("addRow(1, 0) when full", () -> full.addRow(1, 0));
        // A row in the place of one that was removed has nothing of it.
        full.setAmount(23, 0, 5);
        full.keep(23, true);
        full.removeRow(23);
        CHECK.same("addRow(2, 1)", full.addRow(2, 1), 23);
        CHECK.same("amount(23, 0)", full.amount(23, 0), 0);
        CHECK.same("row(23, 2)", full.row(23, 2), 0);
    }

    private static void setAmount() {
        TablePager x = Check.loaded("T2200r1+11-12r2+21+22");
        CHECK.same("setAmount(0, 1, 99)", x.setAmount(0, 1, 99), -12);
        CHECK.same("setAmount(0, 1, -99)", x.setAmount(0, 1, -99), 99);
        CHECK.same("setAmount(1, 0, 0)", x.setAmount(1, 0, 0), 21);
        int[][] due = {{11, -99}, {0, 22}};
        for (int r = 0; r < 2; r++) {
            for (int c = 0; c < 2; c++) {
                CHECK.same("amount(" + r + ", " + c + ")", x.amount(r, c), due[r][c]);
            }
        }
        CHECK.argument("setAmount(0, 0, 100)", () -> x.setAmount(0, 0, 100));
        CHECK.argument("setAmount(0, 0, -100)", () -> x.setAmount(0, 0, -100));
        CHECK.argument("setAmount(0, 0, least)", () -> x.setAmount(0, 0, Integer.MIN_VALUE));
        CHECK.index("setAmount(2, 0, 0)", () -> x.setAmount(2, 0, 0));
        CHECK.index("setAmount(0, 2, 0)", () -> x.setAmount(0, 2, 0));
        for (int w : WRONG) {
            CHECK.index("setAmount(" + w + ", 0, 100)", () -> x.setAmount(w, 0, 100));
            CHECK.index("setAmount(0, " + w + ", 100)", () -> x.setAmount(0, w, 100));
        }
    }

    private static void keep() {
        TablePager x = Check.loaded("T1060r2+00r2+00r3+00");
        CHECK.same("about(5)", x.about(5), 2);
        CHECK.same("keep(1, true)", x.keep(1, true), 2);
        CHECK.same("page(0, 1)", x.page(0, 1), 0);
        CHECK.same("keep(0, true)", x.keep(0, true), 1);
        CHECK.same("about(6)", x.about(6), 1);
        CHECK.same("row(0, 2)", x.row(0, 2), 1);
        CHECK.same("keep(1, false)", x.keep(1, false), 2);
        CHECK.same("row(1, 2)", x.row(1, 2), 0);
        CHECK.same("keep(2, true), the last row", x.keep(2, true), 2);
        CHECK.same("row(2, 2)", x.row(2, 2), 1);
        CHECK.same("page(1, 1)", x.page(1, 1), 2);
        CHECK.index("keep(3, true)", () -> x.keep(3, true));
        for (int w : WRONG) {
            CHECK.index("keep(" + w + ", false)", () -> x.keep(w, false));
        }
    }

    private static void removeRow() {
        TablePager x = Check.loaded("T2200r1+10+11n1kr2+20+21n2r3+30+31n3kr4+40+41n4");
        CHECK.same("removeRow(1)", x.removeRow(1), 0);
        int[][] due = {{1, 1, 1, 10, 11}, {3, 3, 1, 30, 31}, {4, 4, 0, 40, 41}};
        CHECK.same("about(1)", x.about(1), 3);
        for (int r = 0; r < 3; r++) {
            for (int what = 0; what < 3; what++) {
                CHECK.same("row(" + r + ", " + what + ")", x.row(r, what), due[r][what]);
            }
            CHECK.same("amount(" + r + ", 0)", x.amount(r, 0), due[r][3]);
            CHECK.same("amount(" + r + ", 1)", x.amount(r, 1), due[r][4]);
        }
        CHECK.index("removeRow(3)", () -> x.removeRow(3));
        for (int w : WRONG) {
            CHECK.index("removeRow(" + w + ")", () -> x.removeRow(w));
        }
        x.removeRow(2);
        CHECK.same("row(1, 2): the mark of a row that is the last one then", x.row(1, 2), 1);
        x.removeRow(0);
        x.removeRow(0);
        CHECK.same("about(1)", x.about(1), 0);
        CHECK.same("about(5)", x.about(5), 0);
        CHECK.index("removeRow(0) without rows", () -> x.removeRow(0));
        TablePager full = rows(24);
        CHECK.same("removeRow(0) of 24", full.removeRow(0), 0);
        CHECK.same("row(22, 0)", full.row(22, 0), 6);
        CHECK.same("row(0, 0)", full.row(0, 0), 2);
    }

    private static void removeRowFromSpans() {
        String spans = "s00010s00021s01031s02030s03040s04050";
        // Behind the number of the spans that go, those that are left.
        int[][] due = {
            {1, 0, 1, 1, 0, 2, 1, 1, 2, 0, 2, 3, 0, 3, 4, 0},
            {1, 0, 1, 1, 1, 2, 1, 1, 2, 0, 2, 3, 0, 3, 4, 0},
            {1, 0, 1, 0, 0, 1, 1, 1, 2, 1, 2, 3, 0, 3, 4, 0},
            {2, 0, 1, 0, 0, 2, 1, 1, 2, 1, 3, 4, 0},
            {2, 0, 1, 0, 0, 2, 1, 1, 3, 1, 2, 3, 0},
            {1, 0, 1, 0, 0, 2, 1, 1, 3, 1, 2, 3, 0, 3, 4, 0}};
        for (int gone = 0; gone < 6; gone++) {
            TablePager x = Check.loaded("T1400r1+00r1+00r1+00r1+00r1+00r1+00" + spans);
            CHECK.same("removeRow(" + gone + ") with spans", x.removeRow(gone), due[gone][0]);
            int left = (due[gone].length - 1) / 3;
            CHECK.same("about(2) behind removeRow(" + gone + ")", x.about(2), left);
            for (int s = 0; s < left && s < x.about(2); s++) {
                for (int what = 0; what < 3; what++) {
                    CHECK.same("span(" + s + ", " + what + ") behind removeRow(" + gone + ")", x.span(s, what),
                            due[gone][1 + 3 * s + what]);
                }
            }
        }
        TablePager y = Check.loaded("T1400r1+00r1+00r1+00s00010s01020s00011s00021");
        CHECK.same("removeRow(1), three go", y.removeRow(1), 3);
        CHECK.same("about(2)", y.about(2), 1);
        CHECK.same("span(0, 1)", y.span(0, 1), 1);
        CHECK.same("span(0, 2)", y.span(0, 2), 1);
    }

    private static void addSpan() {
        TablePager x = rows(4);
        CHECK.same("addSpan(0, 3, true)", x.addSpan(0, 3, true), 0);
        CHECK.same("addSpan(2, 3, false)", x.addSpan(2, 3, false), 1);
        CHECK.same("addSpan(0, 3, true) again", x.addSpan(0, 3, true), 2);
        int[][] due = {{0, 3, 1}, {2, 3, 0}, {0, 3, 1}};
        for (int s = 0; s < 3; s++) {
            for (int what = 0; what < 3; what++) {
                CHECK.same("span(" + s + ", " + what + ")", x.span(s, what), due[s][what]);
            }
        }
        addSpanFails(x, "");
        for (int s = 3; s < 6; s++) {
            CHECK.same("addSpan(0, 1, true)", x.addSpan(0, 1, true), s);
        }
        CHECK.state("addSpan(0, 1, true) with 6", () -> x.addSpan(0, 1, true));
        CHECK.state("addSpan(0, 1, false) with 6", () -> x.addSpan(0, 1, false));
        addSpanFails(x, " with 6");
    }

    private static void addSpanFails(TablePager x, String with) {
        for (int w : new int[] {-1, 4, Integer.MIN_VALUE, Integer.MAX_VALUE}) {
            CHECK.index("addSpan(" + w + ", 1, true)" + with, () -> x.addSpan(w, 1, true));
            CHECK.index("addSpan(2, " + w + ", true)" + with, () -> x.addSpan(2, w, true));
            CHECK.index("addSpan(" + w + ", " + w + ", true)" + with, () -> x.addSpan(w, w, true));
        }
        CHECK.argument("addSpan(2, 2, true)" + with, () -> x.addSpan(2, 2, true));
        CHECK.argument("addSpan(3, 0, true)" + with, () -> x.addSpan(3, 0, true));
    }

    private static void removeSpan() {
        TablePager x = Check.loaded("T1060r2+00r2+00r2+00r2+00s00020s00011s01030s00031");
        CHECK.same("about(5)", x.about(5), 1);
        CHECK.same("removeSpan(0)", x.removeSpan(0), 2);
        int[][] due = {{0, 1, 1}, {1, 3, 0}, {0, 3, 1}};
        CHECK.same("about(2)", x.about(2), 3);
        for (int s = 0; s < 3; s++) {
            for (int what = 0; what < 3; what++) {
                CHECK.same("span(" + s + ", " + what + ")", x.span(s, what), due[s][what]);
            }
        }
        CHECK.index("removeSpan(3)", () -> x.removeSpan(3));
        for (int w : WRONG) {
            CHECK.index("removeSpan(" + w + ")", () -> x.removeSpan(w));
        }
        CHECK.same("removeSpan(2), the last one", x.removeSpan(2), 2);
        CHECK.same("removeSpan(1)", x.removeSpan(1), 2);
        CHECK.same("removeSpan(0)", x.removeSpan(0), 2);
        CHECK.index("removeSpan(0) without spans", () -> x.removeSpan(0));
    }

    private static void setHeight() {
        TablePager x = Check.loaded("T1200r3+00n1r3+00n6");
        CHECK.same("setHeight(0, 40)", x.setHeight(0, 40), 1);
        CHECK.same("about(3)", x.about(3), 40);
        CHECK.same("setHeight(0, 6)", x.setHeight(0, 6), 2);
        CHECK.same("about(3)", x.about(3), 6);
        CHECK.same("setHeight(0, 8)", x.setHeight(0, 8), 1);
        CHECK.same("setHeight(1, 4)", x.setHeight(1, 4), 2);
        CHECK.same("about(4)", x.about(4), 4);
        CHECK.same("setHeight(1, 0)", x.setHeight(1, 0), 1);
        for (int n = 1; n <= 6; n++) {
            CHECK.same("setHeight of note " + n, x.setHeight(n + 1, 1 + n % 3), 2);
            for (int m = 1; m <= 6; m++) {
                CHECK.same("note(" + m + ")", x.note(m), m <= n ? 1 + m % 3 : 1);
            }
        }
        CHECK.same("setHeight(2, 3)", x.setHeight(2, 3), 2);
        CHECK.same("note(1)", x.note(1), 3);
    }

    private static void setHeightFails() {
        TablePager x = Check.loaded("T1200r3+00n1r3+00n6");
        String before = Check.portrait(x);
        int[][] wrong = {{0, 5}, {0, 41}, {1, -1}, {1, 5}, {2, 0}, {2, 4}, {7, 0}, {7, 4}, {5, 6}, {8, 1}, {-1, 6},
            {-1, 1}, {8, 6}, {Integer.MIN_VALUE, 1}, {Integer.MAX_VALUE, 1}, {0, Integer.MAX_VALUE},
            {1, Integer.MIN_VALUE}, {3, Integer.MIN_VALUE}};
        for (int[] w : wrong) {
            CHECK.argument("setHeight(" + w[0] + ", " + w[1] + ")", () -> x.setHeight(w[0], w[1]));
        }
        if (!before.equals(Check.portrait(x))) {
            CHECK.tell("setHeight that throws changes the table");
        }
        CHECK.state("undo() behind it", () -> x.undo());
    }

    /** 14 states are remembered; with one more, the oldest one is forgotten. */
    private static void undo() {
        TablePager x = new TablePager();
        CHECK.state("undo() of a new object", () -> x.undo());
        for (int i = 0; i < 16; i++) {
            x.addRow(1, 0);
        }
        for (int i = 13; i >= 0; i--) {
            CHECK.same("undo()", x.undo(), i);
            CHECK.same("about(1) behind undo()", x.about(1), i + 2);
        }
        CHECK.state("undo() of a forgotten state", () -> x.undo());
        CHECK.same("about(1)", x.about(1), 2);
        x.addRow(2, 0);
        x.addRow(3, 0);
        CHECK.same("undo()", x.undo(), 1);
        x.addRow(4, 0);
        CHECK.same("row(3, 0)", x.row(3, 0), 4);
        CHECK.same("undo()", x.undo(), 1);
        CHECK.same("undo()", x.undo(), 0);
        CHECK.same("about(1)", x.about(1), 2);
        CHECK.state("undo() is no action", () -> x.undo());
    }

    private static void undoTakesAllBack() {
        String text = "T2083r1+01+02kr2-03+04n2r3+05+06s00011s01020h22";
        TablePager x = Check.loaded(text);
        Check.Call[] actions = {() -> x.addRow(5, 5), () -> x.setAmount(1, 1, 50), () -> x.keep(0, false),
            () -> x.removeRow(0), () -> x.removeRow(2), () -> x.addSpan(0, 2, true), () -> x.removeSpan(0),
            () -> x.setHeight(0, 33), () -> x.setHeight(1, 0), () -> x.setHeight(3, 3)};
        String before = Check.portrait(x);
        for (int i = 0; i < actions.length; i++) {
            actions[i].run();
            if (before.equals(Check.portrait(x))) {
                CHECK.tell("the action " + i + " changes nothing");
            }
            CHECK.same("undo() of the action " + i, x.undo(), 0);
            if (!before.equals(Check.portrait(x))) {
                CHECK.tell("undo() does not take back all of the action " + i);
            }
        }
        Check.type(x, "k");
        x.save(0);
        x.addRow(1, 1);
        x.undo();
        CHECK.same("the text is not taken back", x.clearText(), text.length() + 1);
        CHECK.same("the save slots are not taken back", x.restore(0), 3);
    }

    private static void actionsThatChangeNothing() {
        TablePager x = Check.loaded("T1200r1+07r1+00s00011");
        x.setAmount(0, 0, 7);
        x.keep(0, false);
        x.setHeight(0, 20);
        x.setHeight(1, 0);
        x.setHeight(4, 1);
        for (int i = 4; i >= 0; i--) {
            CHECK.same("undo() of an action that changes nothing", x.undo(), i);
        }
    }

    private static void failedCallsChangeNothing() {
        TablePager x = Check.loaded("T1200r1+07r1+00s00011");
        x.addRow(1, 0);
        String before = Check.portrait(x);
        Check.Call[] calls = {() -> x.addRow(7, 0), () -> x.addRow(1, 7), () -> x.setAmount(3, 0, 1),
            () -> x.setAmount(0, 1, 1), () -> x.setAmount(0, 0, 100), () -> x.keep(3, true), () -> x.removeRow(3),
            () -> x.addSpan(0, 3, true), () -> x.addSpan(1, 1, true), () -> x.removeSpan(1), () -> x.setHeight(0, 5),
            () -> x.restore(0), () -> x.restore(2), () -> x.save(2), () -> x.load()};
        x.append('x');
        for (Check.Call call : calls) {
            if (!Check.outcome(call).startsWith("throws.")) {
                CHECK.tell("a call that must throw does not");
            }
        }
        if (!before.equals(Check.portrait(x))) {
            CHECK.tell("a call that throws changes something");
        }
        CHECK.same("undo(): only one action was remembered", x.undo(), 0);
    }
}
