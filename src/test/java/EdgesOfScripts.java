/** The sentences about scripts and simulations: promises 27 and 28. */
final class EdgesOfScripts {
    private static final long FACTOR = 6364136223846793005L;
    /** What undoes the factor, with long overflow. */
    private static final long UNFACTOR = -4568919932995229531L;
    private static final long SUMMAND = 1442695040888963407L;
    /** Three pages: the row 0 (8 lines), the row 1 (10 lines), the rows 2 and 3 (9 lines). */
    private static final String THREE = """
        type T2101r3+10-01n1r3+20+02n1r3+30-03n2r2-05+04h13s00021s02031
        load() = 4
        """;

    private EdgesOfScripts() {
    }

    static void test(Edges edges) {
        scriptArguments(edges);
        scriptGroups(edges);
        scriptAnswers(edges);
        commandRows(edges);
        commandMarks(edges);
        commandHeights(edges);
        commandQuestions(edges);
        commandFails(edges);
        simulateArguments(edges);
        simulateNumbers(edges);
        simulateAdds(edges);
        simulateMarks(edges);
        simulateRemoves(edges);
        simulateAnswers(edges);
        simulateRounds(edges);
    }

    private static void scriptArguments(Edges edges) {
        edges.of(27, "n: number of commands, 1 to 3", """
            runScript(0, 0) ! argument
            runScript(1, 60000) = NONE
            runScript(3, 600006000060000) = NONE
            runScript(4, 60000) ! argument
            runScript(-1, 0) ! argument
            runScript(least, 0) ! argument
            runScript(most, 0) ! argument
            """);
        edges.of(27, "script: the commands, a number of at most 5 * n digits (0 or more)", """
            runScript(1, -1) ! argument
            runScript(1, 0) = 0
            runScript(1, 99999) = 0
            runScript(1, 100000) ! argument
            runScript(2, -1) ! argument
            runScript(2, 0) = 0
            runScript(2, 9999999999) = 0
            runScript(2, 10000000000) ! argument
            runScript(3, -1) ! argument
            runScript(3, 0) = 0
            runScript(3, 999999999999999) = 0
            runScript(3, 1000000000000000) ! argument
            """);
        edges.of(27, "Throws IllegalArgumentException if n is out of range, or if script is negative or has more than"
                + " 5 * n digits", """
            runScript(0, 60000) ! argument
            runScript(4, 60000) ! argument
            runScript(1, least) ! argument
            runScript(2, least) ! argument
            runScript(3, least) ! argument
            runScript(1, most) ! argument
            runScript(2, most) ! argument
            runScript(3, most) ! argument
            # 4294967296 is 0 for an int, 4295027296 is 60000.
            runScript(1, 4294967296) ! argument
            runScript(1, 4295027296) ! argument
            runScript(1, -60000) ! argument
            """);
    }

    private static void scriptGroups(Edges edges) {
        edges.of(27, "A script has 1 to 3 commands; each is a group of five decimal digits d1 to d5,", """
            runScript(1, 60000) = NONE
            runScript(2, 6000011000) = NONE
            runScript(3, 110006000140000) = NONE
            runScript(3, 110004000060000) = NONE
            runScript(3, 110006000060001) = 1
            """);
        edges.of(27, "the first command is the highest group of the number (with zeros before it, if it has fewer"
                + " digits).", """
            # An added row makes a page, so that the order shows.
            runScript(2, 1100060000) = 1
            runScript(2, 6000011000) = NONE
            # The first group is 00000 or 00006 then, which is no command.
            runScript(2, 60000) = 0
            runScript(3, 60000) = 0
            runScript(3, 6000060000) = 0
            runScript(2, 660000) = 0
            # The second and the third group have zeros of their own.
            runScript(2, 6000000000) = 1
            runScript(3, 600006000000000) = 2
            runScript(3, 600000000060000) = 1
            """);
    }

    private static void scriptAnswers(Edges edges) {
        edges.of(27, "Returns the index, from 0, of the first command that fails; NONE if all succeed.", """
            runScript(1, 60000) = NONE
            runScript(1, 0) = 0
            runScript(2, 6000060000) = NONE
            runScript(2, 6000000000) = 1
            runScript(2, 60000) = 0
            runScript(2, 0) = 0
            runScript(3, 600006000060000) = NONE
            runScript(3, 600006000000000) = 2
            runScript(3, 600000000000000) = 1
            runScript(3, 6000060000) = 0
            runScript(3, 0) = 0
            """);
        edges.of(27, "Runs a script on a copy of the state.", THREE + """
            still runScript(3, 400004000040000) = NONE
            still runScript(3, 166002000930010) = NONE
            still runScript(3, 500605104057030) = NONE
            # Each run begins with the same state.
            still runScript(2, 4000060002) = NONE
            still runScript(1, 60002) = 0
            still runScript(2, 4000000000) = 1
            runScript(1, 60003) = NONE
            undo() ! state
            """);
    }

    private static void commandRows(Edges edges) {
        edges.of(27, "1 h n 0 0: addRow(h, n).", """
            runScript(1, 10000) = 0
            runScript(1, 11000) = NONE
            runScript(1, 16600) = NONE
            runScript(1, 17000) = 0
            runScript(1, 11700) = 0
            runScript(1, 11610) = 0
            runScript(1, 11601) = 0
            # The height and the note: 6 lines and a heading on a page of 7, or a line more.
            setHeight(0, 7)
            runScript(2, 1600090000) = NONE
            runScript(2, 1510090000) = NONE
            runScript(2, 1610090000) = 1
            setHeight(3, 2)
            runScript(2, 1520090000) = 1
            runScript(2, 1530090000) = NONE
            # The 24th row, and one more.
            22 * addRow(1, 0)
            runScript(2, 1100011000) = NONE
            runScript(3, 110001100011000) = 2
            addRow(1, 0)
            runScript(1, 11000) = NONE
            addRow(1, 0)
            runScript(1, 11000) = 0
            runScript(2, 4230011000) = NONE
            """);
        edges.of(27, "2 r r c d: the amount of the row rr in the column c becomes d.", """
            runScript(1, 20000) = 0
            type T2200r1+00+00
            load()
            runScript(1, 20000) = NONE
            runScript(1, 20009) = NONE
            runScript(1, 20019) = NONE
            runScript(1, 20020) = 0
            runScript(1, 20100) = 0
            runScript(1, 21000) = 0
            23 * addRow(1, 0)
            runScript(1, 22319) = NONE
            runScript(1, 22400) = 0
            runScript(1, 22320) = 0
            new
            type T4200r1+00+00+00+00
            load()
            runScript(1, 20039) = NONE
            runScript(1, 20040) = 0
            # Nothing else becomes different.
            runScript(3, 200396000190000) = NONE
            """);
        edges.of(27, "4 r r 0 0: removeRow(rr).", """
            runScript(1, 40000) = 0
            addRow(1, 0)
            runScript(1, 40000) = NONE
            runScript(1, 40100) = 0
            runScript(1, 40010) = 0
            runScript(1, 40001) = 0
            runScript(2, 4000040000) = 1
            runScript(2, 4000060000) = NONE
            23 * addRow(1, 0)
            runScript(1, 42300) = NONE
            runScript(1, 42400) = 0
            runScript(2, 4230042300) = 1
            # The page ends with the row 22 then, and behind another one with the row 21.
            setHeight(0, 40)
            runScript(2, 4000070022) = NONE
            runScript(3, 400004220070021) = NONE
            """);
    }

    private static void commandMarks(Edges edges) {
        edges.of(27, "3 r r i 0: keep(rr, i is 1) (i is 0 or 1).", """
            runScript(1, 30010) = 0
            type T1064r6+00r6+00
            load()
            runScript(1, 30000) = NONE
            runScript(1, 30010) = NONE
            runScript(1, 30020) = 0
            runScript(1, 30090) = 0
            runScript(1, 30001) = 0
            runScript(1, 30011) = 0
            runScript(1, 30110) = NONE
            runScript(1, 30210) = 0
            runScript(2, 3001060001) = NONE
            runScript(2, 3000060001) = 1
            runScript(2, 3011060001) = 1
            runScript(3, 300103000060001) = 2
            keep(0, true)
            runScript(1, 60001) = NONE
            runScript(2, 3001060001) = NONE
            runScript(2, 3000060001) = 1
            """);
    }

    private static void commandHeights(Edges edges) {
        edges.of(27, "5 w x y 0: setHeight(w, xy).", """
            runScript(1, 50050) = 0
            runScript(1, 50060) = NONE
            runScript(1, 50400) = NONE
            runScript(1, 50410) = 0
            runScript(1, 50000) = 0
            runScript(1, 50990) = 0
            runScript(1, 51000) = NONE
            runScript(1, 51040) = NONE
            runScript(1, 51050) = 0
            runScript(1, 51100) = 0
            runScript(1, 52000) = 0
            runScript(1, 52010) = NONE
            runScript(1, 52030) = NONE
            runScript(1, 52040) = 0
            runScript(1, 52110) = 0
            runScript(1, 57000) = 0
            runScript(1, 57030) = NONE
            runScript(1, 57040) = 0
            runScript(1, 58010) = 0
            runScript(1, 58060) = 0
            runScript(1, 59010) = 0
            runScript(1, 50061) = 0
            # What it sets: a row of 6 lines and a note on pages of 8 and 7, with headings of 1 and 0.
            addRow(6, 1)
            runScript(2, 5008090000) = NONE
            runScript(2, 5007090000) = 1
            runScript(3, 500705100090000) = NONE
            runScript(3, 500805101090000) = NONE
            runScript(3, 500805102090000) = 2
            runScript(3, 500805202090000) = 2
            runScript(3, 500805202090001) = NONE
            runScript(3, 500805302090000) = NONE
            """);
    }

    private static void commandQuestions(Edges edges) {
        edges.of(27, "6 0 0 x y: succeeds if there are at most xy pages.", """
            runScript(1, 60000) = NONE
            setHeight(0, 6)
            setHeight(1, 4)
            addRow(6, 0)
            runScript(1, 60000) = 0
            runScript(1, 60001) = NONE
            runScript(1, 60002) = NONE
            11 * addRow(6, 0)
            runScript(1, 60011) = 0
            runScript(1, 60012) = NONE
            runScript(1, 60013) = NONE
            runScript(1, 60021) = NONE
            12 * addRow(6, 0)
            runScript(1, 60023) = 0
            runScript(1, 60024) = NONE
            runScript(1, 60025) = NONE
            runScript(1, 60099) = NONE
            runScript(1, 60199) = 0
            runScript(1, 61099) = 0
            """);
        edges.of(27, "7 p p x y: succeeds if the page pp has the last row xy.", """
            runScript(1, 70000) = 0
            setHeight(0, 6)
            setHeight(1, 4)
            24 * addRow(6, 0)
            runScript(1, 70000) = NONE
            runScript(1, 70001) = 0
            runScript(1, 71111) = NONE
            runScript(1, 71110) = 0
            runScript(1, 71112) = 0
            runScript(1, 72322) = 0
            runScript(1, 72323) = NONE
            runScript(1, 72324) = 0
            runScript(1, 72424) = 0
            runScript(1, 72423) = 0
            runScript(1, 79999) = 0
            """);
        edges.of(27, "8 s n 0 0: succeeds if the span s has rows on just n pages.", """
            runScript(1, 80100) = 0
            type T1064r6+00r6+00r6+00
            load()
            runScript(1, 80100) = 0
            runScript(1, 80000) = 0
            5 * addSpan(0, 2, true)
            addSpan(1, 2, true)
            runScript(1, 80200) = 0
            runScript(1, 80300) = NONE
            runScript(1, 80400) = 0
            runScript(1, 85100) = 0
            runScript(1, 85200) = NONE
            runScript(1, 85300) = 0
            runScript(1, 86200) = 0
            runScript(1, 89000) = 0
            runScript(1, 85210) = 0
            runScript(1, 85201) = 0
            addSpan(0, 1, true) ! state
            # On one page.
            runScript(2, 3011085100) = NONE
            runScript(2, 3001085200) = NONE
            new
            # More pages than one digit can tell.
            setHeight(0, 6)
            setHeight(1, 4)
            24 * addRow(6, 0)
            addSpan(0, 8, true)
            addSpan(0, 9, true)
            runScript(1, 80900) = NONE
            runScript(1, 81900) = 0
            runScript(1, 81000) = 0
            """);
        edges.of(27, "9 0 0 0 x: succeeds if at most x pages are overfull.", """
            runScript(1, 90000) = NONE
            setHeight(0, 6)
            setHeight(1, 4)
            addRow(6, 0)
            runScript(1, 90000) = 0
            runScript(1, 90001) = NONE
            runScript(1, 90002) = NONE
            8 * addRow(6, 0)
            runScript(1, 90008) = 0
            runScript(1, 90009) = NONE
            addRow(6, 0)
            runScript(1, 90009) = 0
            runScript(1, 90010) = 0
            runScript(1, 90109) = 0
            runScript(1, 91009) = 0
            runScript(2, 5012090000) = NONE
            """);
    }

    private static void commandFails(Edges edges) {
        edges.of(27, "The commands 1 to 5 fail if the method would throw an exception;", THREE + """
            runScript(1, 10000) = 0
            runScript(1, 17000) = 0
            runScript(1, 11700) = 0
            runScript(1, 20400) = 0
            runScript(1, 20020) = 0
            runScript(1, 30410) = 0
            runScript(1, 40400) = 0
            runScript(1, 50410) = 0
            runScript(1, 58010) = 0
            # What fails does nothing, and nothing behind it is done.
            runScript(3, 110001000060002) = 1
            runScript(2, 1700060000) = 0
            """);
        edges.of(27, "commands with rows, columns, spans or pages that do not exist fail,", THREE + """
            runScript(1, 20309) = NONE
            runScript(1, 20409) = 0
            runScript(1, 20319) = NONE
            runScript(1, 20329) = 0
            runScript(1, 30300) = NONE
            runScript(1, 30400) = 0
            runScript(1, 40300) = NONE
            runScript(1, 40400) = 0
            runScript(1, 70203) = NONE
            runScript(1, 70303) = 0
            runScript(1, 70204) = 0
            runScript(1, 81100) = NONE
            runScript(1, 82100) = 0
            # What a command before it has made or taken does count.
            runScript(2, 1100020409) = NONE
            runScript(2, 4030020309) = 1
            runScript(2, 4030081100) = 1
            runScript(2, 4030040300) = 1
            """);
        edges.of(27, "and so does any other group (also one with another digit where a 0 is written).", THREE + """
            runScript(1, 0) = 0
            runScript(1, 9999) = 0
            runScript(1, 1) = 0
            runScript(1, 11000) = NONE
            runScript(1, 11010) = 0
            runScript(1, 11001) = 0
            runScript(1, 30010) = NONE
            runScript(1, 30011) = 0
            runScript(1, 30019) = 0
            runScript(1, 30020) = 0
            runScript(1, 40000) = NONE
            runScript(1, 40010) = 0
            runScript(1, 40001) = 0
            runScript(1, 50100) = NONE
            runScript(1, 50101) = 0
            runScript(1, 50109) = 0
            runScript(1, 60004) = NONE
            runScript(1, 60104) = 0
            runScript(1, 61004) = 0
            runScript(1, 80300) = NONE
            runScript(1, 80310) = 0
            runScript(1, 80301) = 0
            runScript(1, 90009) = NONE
            runScript(1, 90019) = 0
            runScript(1, 90109) = 0
            runScript(1, 91009) = 0
            """);
        edges.of(27, "rr, pp and xy are decimal numbers.", """
            setHeight(0, 6)
            setHeight(1, 4)
            22 * addRow(6, 0)
            runScript(1, 42100) = NONE
            runScript(1, 42200) = 0
            runScript(1, 41000) = NONE
            runScript(1, 40900) = NONE
            runScript(1, 70909) = NONE
            runScript(1, 71010) = NONE
            runScript(1, 71009) = 0
            runScript(1, 72121) = NONE
            runScript(1, 60021) = 0
            runScript(1, 60022) = NONE
            runScript(2, 5012090000) = NONE
            """);
    }

    /** A seed whose first round has this r; of what is below r in x no answer may depend. */
    private static long seed(long r, long below) {
        return ((r << 33) + below - SUMMAND) * UNFACTOR;
    }

    /** A seed whose first round has the first r, and whose second one has the kind, and the row of so many rows. */
    private static long seedOfTwo(long first, int kind, int rows, int row) {
        for (long below = 0; below < 100000; below++) {
            long seed = seed(first, below);
            long x = (seed * FACTOR + SUMMAND) * FACTOR + SUMMAND;
            int second = (int) (x >>> 33);
            if (second % 3 == kind && second / 4 % rows == row) {
                return seed;
            }
        }
        throw new AssertionError("there is no such seed");
    }

    private static String simulated(long r, int answer) {
        return "simulate(" + seed(r, 0) + ", 1) = " + answer + "\n";
    }

    private static void simulateArguments(Edges edges) {
        edges.of(28, "m: number of rounds, 1 to 99", """
            simulate(0, 0) ! argument
            simulate(0, 1) = 0
            simulate(0, 98) = 1003
            simulate(0, 99) = 1002
            simulate(0, 100) ! argument
            """);
        edges.of(28, "Throws IllegalArgumentException if m is out of range", """
            addRow(1, 0)
            simulate(1, 0) ! argument
            simulate(1, 100) ! argument
            simulate(1, -1) ! argument
            simulate(1, least) ! argument
            simulate(1, most) ! argument
            simulate(least, 0) ! argument
            simulate(most, 100) ! argument
            """);
        edges.of(28, "seed: any long", """
            # r is 167951807, 1574552488, 1241693631 and 500810664: 2, 1, 0 and 0 when divided by 3.
            simulate(0, 1) = 0
            simulate(-1, 1) = 0
            simulate(least, 1) = 1001
            simulate(most, 1) = 1001
            simulate(least, 98) = 3010
            simulate(least, 99) = 3011
            simulate(most, 98) = 4114
            simulate(most, 99) = 4115
            # To a full table.
            simulate(2133, 99) = 7124
            """);
    }

    private static void simulateNumbers(Edges edges) {
        // Without rows only a row that is added shows: 1001, as against 0.
        edges.of(28, "Each round first replaces x by x * 6364136223846793005L + 1442695040888963407L (with long overflow),"
                + " and r = (int) (x >>> 33) is computed.",
                // The least and the greatest r, and those round the middle; whatever is in the 33 bits below.
                simulated(0, 1001) + simulated(1, 0) + simulated(2, 0) + simulated(3, 1001)
                + simulated(1073741823L, 1001) + simulated(1073741824L, 0) + simulated(1073741825L, 0)
                + simulated(2147483644L, 0) + simulated(2147483645L, 0) + simulated(2147483646L, 1001)
                + simulated(2147483647L, 0)
                + "simulate(" + seed(3, 8589934591L) + ", 1) = 1001\n"
                + "simulate(" + seed(2, 8589934591L) + ", 1) = 0\n"
                + "simulate(" + seed(2147483646L, 8589934591L) + ", 1) = 1001\n"
                + "simulate(" + seed(2147483647L, 8589934591L) + ", 1) = 0\n");
        edges.of(28, "A long x starts as the seed.",
                // x is replaced before r is taken from it: a seed of 0 does not give an r of 0.
                "simulate(0, 1) = 0\n" + "simulate(" + seed(0, 0) + ", 1) = 1001\n");
        edges.of(28, "N is the number of rows.",
                // A row of 6 lines, overfull, and behind it one of 1 line that is added: which of them goes then?
                "type T1061r6+00\nload()\nabout(6) = 1\n"
                + "simulate(" + seed(0, 0) + ", 1) = 2102\n"
                + "simulate(" + seedOfTwo(0, 2, 2, 0) + ", 2) = 1001\n"
                + "simulate(" + seedOfTwo(0, 2, 2, 1) + ", 2) = 1101\n"
                // Of no rows none can go or be marked, behind a round that has taken the last one.
                + "simulate(" + seedOfTwo(2, 2, 1, 0) + ", 2) = 0\n"
                + "simulate(" + seedOfTwo(2, 1, 1, 0) + ", 2) = 0\n"
                + "simulate(" + seedOfTwo(2, 0, 1, 0) + ", 2)\n");
    }

    /**
     * Behind a row of 6 lines that stays with the next one, a row of this height and with this note makes a page of
     * so many lines and not one less; the note has 3 lines, the others 1.
     */
    private static String added(long r, int height, int note) {
        int lines = 6 + height + (note == 0 ? 0 : 3);
        String high = note == 0 ? "" : "setHeight(" + (note + 1) + ", 3)\n";
        String low = note == 0 ? "" : "setHeight(" + (note + 1) + ", 1)\n";
        return high + "setHeight(0, " + lines + ")\n" + simulated(r, 1002)
                + "setHeight(0, " + (lines - 1) + ")\n" + simulated(r, 1102) + low;
    }

    private static void simulateAdds(Edges edges) {
        // Round the ends of r / 4, r / 4 % 6, r / 32 and r / 32 % 7, and the greatest r that adds a row.
        edges.of(28, "a row of the height 1 + r / 4 % 6 with the note r / 32 % 7 is added.",
                "setHeight(1, 0)\naddRow(6, 0)\nkeep(0, true)\n"
                + added(0, 1, 0) + added(3, 1, 0) + added(9, 3, 0) + added(12, 4, 0) + added(21, 6, 0) + added(24, 1, 0)
                + added(30, 2, 0) + added(33, 3, 1) + added(63, 4, 1) + added(93, 6, 2) + added(96, 1, 3)
                + added(192, 1, 6) + added(222, 2, 6) + added(225, 3, 0) + added(2147483646L, 2, 3));
        edges.of(28, "If r % 3 is 0 and there are fewer than 24 rows,", "setHeight(0, 40)\n"
                + simulated(0, 1001) + "addRow(1, 0)\n" + simulated(0, 1002) + "21 * addRow(1, 0)\n"
                + simulated(0, 1023) + "addRow(1, 0)\n" + simulated(0, 1024) + simulated(1, 1023) + simulated(2, 1022)
                + "addRow(1, 0)\n" + simulated(0, 1024) + simulated(21, 1024) + simulated(2, 1023));
    }

    private static void simulateMarks(Edges edges) {
        // Three rows, a page each; r is 1, 4 and 10: the rows 0, 1 and 2 of three.
        edges.of(28, "If r % 3 is 1 and N is not 0, the row r / 4 % N begins or ceases to stay with the next one.",
                simulated(1, 0) + "type T1064r6+00r6+00r6+00s00011s01021\nload()\nabout(5) = 3\n"
                + simulated(1, 2203) + simulated(4, 2203) + simulated(10, 3303)
                + "keep(0, true) = 2\n" + simulated(1, 3303) + simulated(4, 1103)
                + "keep(1, true) = 1\n" + simulated(1, 2203) + simulated(4, 2203) + simulated(10, 1103)
                // Twice the same row: it is as before.
                + "keep(0, false)\nkeep(1, false)\n"
                + "simulate(" + seedOfTwo(1, 1, 3, 0) + ", 2) = 3303\n"
                + "simulate(" + seedOfTwo(1, 1, 3, 1) + ", 2) = 1103\n");
    }

    private static void simulateRemoves(Edges edges) {
        // Pages of 6 lines: the row 0 fits, the row 1 is overfull, the row 2 fits. r is 2, 5 and 8.
        edges.of(28, "If r % 3 is 2 and N is not 0, the row r / 4 % N is removed.",
                simulated(2, 0) + "addRow(1, 0)\n" + simulated(2, 0) + simulated(5, 0)
                + "new\ntype T1060r5+00r6+00r5+00\nload()\nabout(6) = 1\n"
                + simulated(2, 2102) + simulated(5, 2002) + simulated(8, 2102)
                // A span loses the row, as removeRow says: its name makes the last page overfull ...
                + "addSpan(0, 2, true) = 0\nabout(6) = 2\n" + simulated(2, 2202) + simulated(5, 2102)
                // ... or goes.
                + "removeSpan(0)\naddSpan(0, 1, true)\nabout(6) = 1\n" + simulated(5, 2002)
                // The first row and the last one of a full table.
                + "new\nsetHeight(0, 27)\nsetHeight(1, 0)\naddRow(6, 0)\n22 * addRow(1, 0)\naddRow(5, 0)\n"
                + simulated(2, 1023) + simulated(95, 2023));
    }

    private static void simulateAnswers(Edges edges) {
        StringBuilder rows = new StringBuilder("setHeight(0, 6)\nsetHeight(1, 4)\n");
        rows.append(simulated(2, 0)).append(simulated(21, 1101)).append("7 * addRow(6, 0)\n");
        // r is 21: a row of 6 lines is added. r is 1: the row 0 stays with the next one.
        rows.append(simulated(21, 8808)).append(simulated(1, 6607)).append("addRow(6, 0)\n");
        rows.append(simulated(21, 9909)).append("addRow(6, 0)\n");
        rows.append(simulated(21, 10910)).append("addRow(6, 0)\n");
        rows.append(simulated(21, 11911)).append(simulated(2, 9909)).append("14 * addRow(6, 0)\n");
        rows.append(simulated(21, 24924)).append(simulated(1, 23924)).append(simulated(2, 23923));
        edges.of(28, "Returns 1000 * (the number of pages at the end) + 100 * (the number of overfull ones, or 9 if"
                + " there are more) + (the number of rows).", rows.toString());
    }

    private static void simulateRounds(Edges edges) {
        edges.of(28, "Simulates m rounds on a copy of the state.", THREE + """
            still simulate(0, 99)
            still simulate(1, 1)
            """ + "still " + simulated(2, 2003) + "still " + simulated(2, 2003)
                // The first round adds a row, and the second one another one, or takes it, or marks the only one.
                + "new\n" + simulated(0, 1001)
                + "simulate(" + seedOfTwo(0, 0, 1, 0) + ", 1) = 1001\n"
                + "simulate(" + seedOfTwo(0, 2, 1, 0) + ", 1) = 1001\n"
                + "simulate(" + seedOfTwo(0, 2, 1, 0) + ", 2) = 0\n"
                + "simulate(" + seedOfTwo(0, 1, 1, 0) + ", 2) = 1001\n"
                + "simulate(" + seedOfTwo(0, 0, 1, 0) + ", 2) = 1002\n"
                + "undo() ! state\nabout(1) = 0\n");
    }
}
