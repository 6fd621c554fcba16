/** Promises 29 and 30. */
public final class SlotsTest {
    private static final Check CHECK = new Check("SlotsTest");
    private static final int[] WRONG = {-1, 2, Integer.MIN_VALUE, Integer.MAX_VALUE};

    public static void main(String[] args) {
        arguments();
        saveAndRestore();
        wholeState();
        remembered();
        loadEmpties();
        CHECK.finish();
    }

    private static void arguments() {
        TablePager x = new TablePager();
        for (int w : WRONG) {
            CHECK.index("save(" + w + ")", () -> x.save(w));
            CHECK.index("restore(" + w + ")", () -> x.restore(w));
        }
        CHECK.state("restore(0)", () -> x.restore(0));
        CHECK.state("restore(1)", () -> x.restore(1));
        CHECK.same("save(0) without rows", x.save(0), 0);
        CHECK.same("restore(0)", x.restore(0), 0);
        CHECK.state("restore(1) when only 0 is saved", () -> x.restore(1));
        for (int w : WRONG) {
            CHECK.index("restore(" + w + ") when 0 is saved", () -> x.restore(w));
        }
    }

    private static void saveAndRestore() {
        TablePager x = new TablePager();
        x.addRow(1, 0);
        CHECK.same("save(1)", x.save(1), 1);
        x.addRow(2, 0);
        CHECK.same("save(0)", x.save(0), 2);
        x.addRow(3, 0);
        CHECK.same("restore(1)", x.restore(1), 1);
        CHECK.same("about(1)", x.about(1), 1);
        x.setHeight(0, 30);
        CHECK.same("restore(1): the slot keeps it", x.restore(1), 1);
        CHECK.same("about(3): what comes behind restore does not touch the slot", x.about(3), 20);
        CHECK.same("restore(0)", x.restore(0), 2);
        CHECK.same("row(1, 0)", x.row(1, 0), 2);
        x.removeRow(0);
        CHECK.same("save(0) again", x.save(0), 1);
        CHECK.same("restore(0) of what was saved last", x.restore(0), 1);
        CHECK.same("row(0, 0)", x.row(0, 0), 2);
    }

    private static void wholeState() {
        TablePager x = Check.loaded("T2083r1+01+02kr2-03+04n2r3+05+06s00011s01020h22");
        String before = Check.portrait(x);
        x.save(1);
        x.addRow(5, 5);
        x.setAmount(1, 1, 50);
        x.keep(0, false);
        x.removeRow(2);
        x.addSpan(0, 2, true);
        x.removeSpan(0);
        x.setHeight(0, 33);
        x.setHeight(1, 0);
        x.setHeight(3, 3);
        x.clearText();
        x.append('T');
        x.restore(1);
        if (!before.equals(Check.portrait(x))) {
            CHECK.tell("restore does not bring back the whole state");
        }
        CHECK.same("the text is not restored", x.clearText(), 1);
    }

    private static void remembered() {
        TablePager x = new TablePager();
        x.addRow(1, 0);
        x.addRow(2, 0);
        x.save(0);
        CHECK.same("undo() behind save: save is no action and forgets none", x.undo(), 1);
        CHECK.same("about(1)", x.about(1), 1);
        x.restore(0);
        CHECK.state("undo() behind restore", () -> x.undo());
        x.addRow(3, 0);
        CHECK.state("restore(1) of an empty slot", () -> x.restore(1));
        CHECK.index("restore(2)", () -> x.restore(2));
        CHECK.same("undo() behind a restore that throws", x.undo(), 0);
        CHECK.same("about(1)", x.about(1), 2);
        CHECK.state("undo()", () -> x.undo());
    }

    private static void loadEmpties() {
        TablePager x = Check.loaded("T1200r1+00");
        x.save(0);
        x.save(1);
        x.load();
        CHECK.state("restore(0) behind load", () -> x.restore(0));
        CHECK.state("restore(1) behind load", () -> x.restore(1));
        CHECK.same("save(1)", x.save(1), 1);
        CHECK.state("restore(0)", () -> x.restore(0));
        CHECK.same("restore(1)", x.restore(1), 1);
    }
}
