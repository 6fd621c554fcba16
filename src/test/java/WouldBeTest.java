/** Promises 23 to 26. */
public final class WouldBeTest {
    private static final int NONE = TablePager.NONE;
    private static final Check CHECK = new Check("WouldBeTest");
    /** Three pages: the row 0 (8 lines), the row 1 (10 lines), the rows 2 and 3 (9 lines). */
    private static final String THREE = "T2101r3+10-01n1r3+20+02n1r3+30-03n2r2-05+04h13s00021s02031";

    public static void main(String[] args) {
        heightFor();
        heightForMuch();
        evenest();
        evenestPlaces();
        evenestOfSeveral();
        evenestOverfull();
        evenestOfManyRows();
        emptyFrom();
        changeNothing();
        CHECK.finish();
    }

    private static void heightFor() {
        TablePager x = Check.loaded(THREE);
        int[] due = {16, 11, 10, 10};
        for (int n = 1; n <= 4; n++) {
            CHECK.same("heightFor(" + n + ")", x.heightFor(n), due[n - 1]);
        }
        CHECK.same("heightFor(24)", x.heightFor(24), 10);
        for (int w : new int[] {0, 25, -1, Integer.MIN_VALUE, Integer.MAX_VALUE}) {
            CHECK.argument("heightFor(" + w + ")", () -> x.heightFor(w));
        }
        CHECK.same("heightFor(1) without rows", new TablePager().heightFor(1), 6);
        CHECK.same("heightFor(1): not below 6", Check.loaded("T1400r1+00").heightFor(1), 6);
    }

    private static void heightForMuch() {
        TablePager x = Check.loaded("T1060");
        for (int i = 0; i < 24; i++) {
            x.addRow(6, 0);
        }
        // Six rows and two sums a page: 38 lines; with 37, five rows a page.
        CHECK.same("heightFor(3)", x.heightFor(3), NONE);
        CHECK.same("heightFor(4)", x.heightFor(4), 38);
        CHECK.same("heightFor(5)", x.heightFor(5), 32);
        CHECK.same("heightFor(24)", x.heightFor(24), 8);
        TablePager kept = Check.loaded("T1404r6+00kr6+00kr6+00kr6+00kr6+00kr6+00");
        CHECK.same("heightFor(24) of 40 lines", kept.heightFor(24), 40);
        kept.setHeight(0, 6);
        CHECK.same("heightFor(1) of 40 lines", kept.heightFor(1), 40);
        kept.addRow(1, 0);
        kept.keep(5, true);
        CHECK.same("heightFor(24) of 41 lines", kept.heightFor(24), NONE);
    }

    private static void cuts(TablePager x, String of, int cost, int... ends) {
        CHECK.same("evenest() of " + of, x.evenest(), cost);
        for (int i = 0; i < ends.length; i++) {
            CHECK.same("evenCut(" + i + ") of " + of, x.evenCut(i), ends[i]);
        }
        CHECK.same("evenCut() behind the last page of " + of, x.evenCut(ends.length), NONE);
        CHECK.same("evenCut() far behind the last page of " + of, x.evenCut(Integer.MAX_VALUE), NONE);
    }

    private static void evenest() {
        cuts(new TablePager(), "no rows", 0);
        TablePager x = Check.loaded("T1100r4+00r4+00r4+00");
        cuts(x, "three rows", 1, 1, 2);
        cuts(Check.loaded("T1400r1+00r1+00"), "one page", 0, 1);
        CHECK.argument("evenCut(-1)", () -> x.evenCut(-1));
        CHECK.argument("evenCut(least)", () -> x.evenCut(Integer.MIN_VALUE));
        CHECK.argument("evenCut(-1) without rows", () -> new TablePager().evenCut(-1));
        // The pages as they are laid, with the last rows 2, 3, 4 and 5, cost 1 + 25 + 16.
        cuts(Check.loaded("T1120r5+00r4+00r1+00r5+00r6+00r6+00"), "uneven pages", 4 + 16 + 16, 1, 3, 4, 5);
    }

    /** Only where the table can be cut. */
    private static void evenestPlaces() {
        TablePager x = Check.loaded("T1100r4+00r4+00kr4+00");
        cuts(x, "a row that stays", 25, 0, 2);
        x.addSpan(0, 1, true);
        // The name of the span is repeated on the second page, which is just full.
        cuts(x, "a span that is repeated", 25, 0, 2);
        x.removeSpan(0);
        x.addSpan(0, 1, false);
        cuts(x, "a span that may not be cut", 2000, 2);
    }

    /** Of several ways with the smallest cost the one whose first pages end first. */
    private static void evenestOfSeveral() {
        cuts(Check.loaded("T1100r5+00r3+00r4+00r6+00"), "two ways", 17, 0, 2, 3);
        cuts(Check.loaded("T1100r6+00r4+00r3+00r4+00r6+00"), "two second pages", 26, 0, 1, 3, 4);
    }

    private static void evenestOverfull() {
        cuts(Check.loaded("T1060r6+00r6+00"), "two overfull pages", 2000, 0, 1);
        cuts(Check.loaded("T1060r6+00kr1+00"), "an overfull page alone", 1000, 1);
        cuts(Check.loaded("T1064r6+00n1kr6+00kr6+00h13"), "much too full", 19000, 2);
    }

    /** Nothing of an earlier question stays, and neither method needs the other one asked before. */
    private static void evenestOfManyRows() {
        TablePager x = new TablePager();
        for (int r = 0; r < 24; r++) {
            x.addRow(6, 0);
        }
        x.setHeight(0, 8);
        CHECK.same("evenCut(23) without evenest()", x.evenCut(23), 23);
        CHECK.same("evenCut(24)", x.evenCut(24), NONE);
        CHECK.same("evenest() of 24 pages", x.evenest(), 22 * 1000);
        x.setHeight(0, 20);
        // Three rows on the first page, which is full, and on the last one; nine times two rows between them.
        CHECK.same("evenCut(0) of what has changed", x.evenCut(0), 2);
        CHECK.same("evenest()", x.evenest(), 9 * 25);
        x.keep(2, true);
        CHECK.same("evenCut(0) where it can't be cut", x.evenCut(0), 1);
        CHECK.same("evenest()", x.evenest(), 36 + 10 * 25);
        x.undo();
        for (int r = 23; r >= 2; r--) {
            x.removeRow(r);
        }
        CHECK.same("evenest() of what is left", x.evenest(), 0);
        CHECK.same("evenCut(0)", x.evenCut(0), 1);
        CHECK.same("evenCut(1)", x.evenCut(1), NONE);
    }

    private static void emptyFrom() {
        TablePager x = Check.loaded(THREE);
        int[] due = {2, 0, 1, 5};
        for (int r = 0; r < 4; r++) {
            CHECK.same("emptyFrom(" + r + ")", x.emptyFrom(r), due[r]);
        }
        for (int w : new int[] {-1, 4, Integer.MIN_VALUE, Integer.MAX_VALUE}) {
            CHECK.index("emptyFrom(" + w + ")", () -> x.emptyFrom(w));
        }
        CHECK.index("emptyFrom(0) without rows", () -> new TablePager().emptyFrom(0));
        TablePager span = Check.loaded("T1200r2+00r2+00r2+00s00020");
        CHECK.same("emptyFrom(1) in a span that may not be cut", span.emptyFrom(1), 20 - 1 - 1 - 4);
        CHECK.same("emptyFrom(2)", span.emptyFrom(2), 20 - 1 - 1 - 2);
        TablePager over = Check.loaded("T1060r2+00kr3+00kr3+00r5+00");
        int[] left = {NONE, NONE, 1, 0};
        for (int r = 0; r < 4; r++) {
            CHECK.same("emptyFrom(" + r + ") where little fits", over.emptyFrom(r), left[r]);
        }
    }

    private static void changeNothing() {
        TablePager x = Check.loaded(THREE);
        x.addRow(1, 0);
        String before = Check.portrait(x);
        x.heightFor(1);
        x.heightFor(24);
        x.evenest();
        x.evenCut(1);
        x.emptyFrom(2);
        if (!before.equals(Check.portrait(x))) {
            CHECK.tell("a call that must change nothing does");
        }
        CHECK.same("undo() behind it", x.undo(), 0);
    }
}
