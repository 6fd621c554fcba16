/** Promises 27 and 28. */
public final class ScriptTest {
    private static final int NONE = TablePager.NONE;
    private static final Check CHECK = new Check("ScriptTest");
    /** Three pages: the row 0 (8 lines), the row 1 (10 lines), the rows 2 and 3 (9 lines). */
    private static final String THREE = "T2101r3+10-01n1r3+20+02n1r3+30-03n2r2-05+04h13s00021s02031";

    public static void main(String[] args) {
        arguments();
        actions();
        fullTable();
        questions();
        otherGroups();
        effects();
        changeNothing();
        simulateArguments();
        simulateAsPlayed();
        simulateManyOverfull();
        CHECK.finish();
    }

    private static void due(TablePager x, int n, long script, int due) {
        CHECK.same("runScript(" + n + ", " + script + ")", x.runScript(n, script), due);
    }

    private static void arguments() {
        TablePager x = Check.loaded(THREE);
        for (int n : new int[] {0, 4, -1, Integer.MIN_VALUE, Integer.MAX_VALUE}) {
            CHECK.argument("runScript(" + n + ", 60003)", () -> x.runScript(n, 60003));
        }
        long[] tooLong = {100000L, 10000000000L, 1000000000000000L};
        for (int n = 1; n <= 3; n++) {
            int of = n;
            for (long w : new long[] {-1, Long.MIN_VALUE, Long.MAX_VALUE, tooLong[n - 1]}) {
                CHECK.argument("runScript(" + n + ", " + w + ")", () -> x.runScript(of, w));
            }
            due(x, n, 0, 0);
            due(x, n, tooLong[n - 1] - 1, 0);
        }
        due(x, 1, 60003, NONE);
        due(x, 2, 60003, 0);
        due(x, 2, 6000360003L, NONE);
        due(x, 2, 6000360002L, 1);
        due(x, 3, 600036000360003L, NONE);
        due(x, 3, 600036000360002L, 2);
        due(x, 3, 600036000260003L, 1);
        due(x, 3, 600026000260003L, 0);
        due(x, 3, 6000360003L, 0);
    }

    private static void actions() {
        TablePager x = Check.loaded(THREE);
        for (long good : new long[] {11100, 16600, 11000, 20000, 20319, 20305, 20210, 30010, 30300, 30310,
            40000, 40300, 50060, 50400, 51000, 51040, 52010, 57030, 57010}) {
            due(x, 1, good, NONE);
        }
        for (long bad : new long[] {10000, 17000, 11700, 16601, 16610, 20400, 20020, 29900, 30400, 30020, 30011, 30001,
            39900, 40400, 40001, 40010, 50050, 50410, 50061, 51050, 51041, 52000, 52040, 58010, 59010, 57031, 52100}) {
            due(x, 1, bad, 0);
        }
        TablePager none = new TablePager();
        for (long bad : new long[] {20000, 30000, 30010, 40000, 70000, 80000, 80100}) {
            due(none, 1, bad, 0);
        }
        due(none, 1, 60000, NONE);
        due(none, 1, 90000, NONE);
    }

    private static void fullTable() {
        TablePager x = new TablePager();
        for (int i = 0; i < 23; i++) {
            x.addRow(1, 0);
        }
        due(x, 1, 11000, NONE);
        due(x, 2, 1100011000L, 1);
        due(x, 3, 110004230011000L, NONE);
        due(x, 3, 110004230042300L, 2);
        x.addRow(1, 0);
        due(x, 1, 11000, 0);
        due(x, 1, 22301, NONE);
        x.setHeight(0, 6);
        // A page of four rows, six of three, one of two; with a heading of 4 lines 24 pages of a row each.
        due(x, 1, 60008, NONE);
        due(x, 1, 60007, 0);
        due(x, 2, 5104060023L, 1);
        due(x, 2, 5104060024L, NONE);
        due(x, 1, 70518, NONE);
        due(x, 1, 70519, 0);
        due(x, 1, 70723, NONE);
        due(x, 1, 22401, 0);
    }

    private static void questions() {
        TablePager x = Check.loaded(THREE);
        for (long good : new long[] {60003, 60004, 60099, 70000, 70101, 70203, 80300, 81100, 90000, 90009}) {
            due(x, 1, good, NONE);
        }
        for (long bad : new long[] {60002, 60000, 60103, 61003, 60199, 70001, 70102, 70100, 70202, 70303, 70304, 79900,
            80200, 80400, 80301, 80310, 81200, 82100, 82000, 89100, 90010, 90100, 91000, 90019}) {
            due(x, 1, bad, 0);
        }
        x.setHeight(0, 6);
        // The rows 0 (8 lines), 1 (10), 2 (8) and 3 (6) have pages of their own then.
        CHECK.same("about(6)", x.about(6), 3);
        due(x, 1, 90003, NONE);
        due(x, 1, 90002, 0);
        due(x, 1, 60004, NONE);
        due(x, 1, 60003, 0);
        due(x, 1, 70303, NONE);
    }

    private static void otherGroups() {
        TablePager x = Check.loaded(THREE);
        for (long bad : new long[] {0, 1, 10, 100, 1000, 9999, 1100}) {
            due(x, 1, bad, 0);
        }
        due(x, 2, 6000300000L, 1);
        due(x, 2, 6000309999L, 1);
    }

    /** What the commands 1 to 5 do shows in the pages. */
    private static void effects() {
        TablePager x = Check.loaded(THREE);
        due(x, 2, 1660060003L, 1);
        due(x, 2, 1660070304L, NONE);
        due(x, 2, 4030070202L, NONE);
        due(x, 2, 4000060002L, NONE);
        due(x, 2, 5011060002L, NONE);
        due(x, 2, 5011070001L, NONE);
        due(x, 2, 5016060001L, NONE);
        due(x, 2, 5015060001L, 1);
        due(x, 2, 5101060002L, 1);
        due(x, 2, 5100060002L, NONE);
        due(x, 2, 5201060002L, NONE);
        due(x, 2, 3001090000L, 1);
        due(x, 2, 3001090001L, NONE);
        due(x, 3, 300103000090000L, NONE);
        due(x, 2, 2000590000L, NONE);
        due(x, 3, 401004010080100L, 2);
        due(x, 2, 4010080200L, NONE);
        due(x, 3, 401004020080000L, 2);
    }

    private static void changeNothing() {
        TablePager x = Check.loaded(THREE);
        x.addRow(1, 0);
        x.save(0);
        String before = Check.portrait(x);
        x.runScript(3, 166002000530010L);
        x.runScript(3, 400005016051000L);
        x.simulate(5, 99);
        if (!before.equals(Check.portrait(x))) {
            CHECK.tell("a call that must change nothing does");
        }
        CHECK.same("undo() behind it", x.undo(), 0);
        x.restore(0);
        if (!before.equals(Check.portrait(x))) {
            CHECK.tell("a call that must change nothing changes a save slot");
        }
    }

    private static void simulateArguments() {
        TablePager x = new TablePager();
        for (int m : new int[] {0, 100, -1, Integer.MIN_VALUE, Integer.MAX_VALUE}) {
            CHECK.argument("simulate(1, " + m + ")", () -> x.simulate(1, m));
        }
        // The first r of the seed 0 is 167951807: 2 when divided by 3; there is no row to be removed.
        CHECK.same("simulate(0, 1)", x.simulate(0, 1), 0);
    }

    /** The rounds are played on another object with the calls of the face. */
    private static void simulateAsPlayed() {
        long[] seeds = {0, 1, 2, 3, -1, Long.MIN_VALUE, Long.MAX_VALUE, 123456789, 99999999999L};
        String[] tables = {"T1200", THREE, "T1060r6+00n1kr1+00r1+00s00010s00021s01020h13",
            "T1102r1+00r1+00r1+00r1+00r1+00r1+00r1+00r1+00r1+00r1+00r1+00r1+00s00111s02041s05100"};
        for (String table : tables) {
            for (long seed : seeds) {
                for (int m : new int[] {1, 2, 3, 10, 50, 98, 99}) {
                    CHECK.same("simulate(" + seed + ", " + m + ") of " + table,
                            Check.loaded(table).simulate(seed, m), played(Check.loaded(table), seed, m));
                }
            }
        }
    }

    private static int played(TablePager x, long seed, int m) {
        long at = seed;
        for (int i = 0; i < m; i++) {
            at = at * 6364136223846793005L + 1442695040888963407L;
            int r = (int) (at >>> 33);
            int n = x.about(1);
            if (r % 3 == 0 && n < 24) {
                x.addRow(1 + r / 4 % 6, r / 32 % 7);
            } else if (r % 3 == 1 && n != 0) {
                x.keep(r / 4 % n, x.row(r / 4 % n, 2) == 0);
            } else if (r % 3 == 2 && n != 0) {
                x.removeRow(r / 4 % n);
            }
        }
        return 1000 * x.about(5) + 100 * Math.min(x.about(6), 9) + x.about(1);
    }

    /** More than nine overfull pages are told as nine; a full table takes no row. */
    private static void simulateManyOverfull() {
        TablePager x = Check.loaded("T1064");
        for (int i = 0; i < 24; i++) {
            x.addRow(6, 0);
        }
        CHECK.same("about(6)", x.about(6), 24);
        boolean some = false;
        for (long seed = 0; seed < 20; seed++) {
            TablePager y = Check.loaded("T1064");
            for (int i = 0; i < 24; i++) {
                y.addRow(6, 0);
            }
            int due = played(y, seed, 3);
            CHECK.same("simulate(" + seed + ", 3) of a full table", x.simulate(seed, 3), due);
            some = some || y.about(1) == 24 && y.about(6) > 9;
        }
        if (!some) {
            CHECK.tell("no seed has shown a full table");
        }
    }
}
