/** The sentences about actions, undo and exceptions: promise 22, and "Actions and undo" and "Exceptions". */
final class EdgesOfUndo {
    /** As much as an object can have: a text, 14 remembered states and more behind them, both slots, rows, spans. */
    private static final String RICH = """
        type T2100r3+01-02kn1r2+03+04n6h13s00011
        load() = 2
        save(0)
        addRow(6, 6)
        save(1)
        6 * addRow(1, 2)
        setAmount(8, 1, -99)
        keep(1, true)
        addSpan(1, 8, false)
        setHeight(3, 3)
        setHeight(0, 12)
        removeRow(4)
        4 * addSpan(2, 3, true)
        keep(0, false)
        """;
    /** The same table with 24 rows and a text of 160 characters. */
    private static final String FULL = RICH + """
        16 * addRow(1, 0)
        125 * append(107)
        """;

    private EdgesOfUndo() {
    }

    static void test(Edges edges) {
        undo(edges);
        atMost(edges);
        eachAction(edges);
        wholeState(edges);
        changeNothing(edges);
        stateAlone(edges);
        otherMethods(edges);
        severalExceptions(edges);
        moreExceptions(edges);
        refusedText(edges);
        refusedQuestions(edges);
        refusedActions(edges);
        refusedOthers(edges);
    }

    private static void undo(Edges edges) {
        edges.of(22, "Throws IllegalStateException if none is remembered", """
            undo() ! state
            addRow(1, 0)
            undo() = 0
            undo() ! state
            about(1) = 0
            addRow(7, 0) ! argument
            undo() ! state
            save(0)
            undo() ! state
            """);
        edges.of(22, "Returns how many states are still remembered.", """
            addRow(1, 0)
            undo() = 0
            2 * addRow(1, 0)
            undo() = 1
            addRow(1, 0)
            undo() = 1
            undo() = 0
            13 * addRow(1, 0)
            undo() = 12
            addRow(1, 0)
            addRow(1, 0)
            undo() = 13
            undo() = 12
            """);
        edges.of(22, "Takes back the last action that is remembered.", """
            addRow(1, 0)
            addRow(2, 0)
            undo()
            about(1) = 1
            row(0, 0) = 1
            # An action behind an undo takes the place of what was taken back.
            addRow(3, 0)
            row(1, 0) = 3
            undo() = 1
            about(1) = 1
            undo() = 0
            about(1) = 0
            """);
    }

    private static void atMost(Edges edges) {
        edges.of(22, "At most 14 states are remembered;", """
            13 * addRow(1, 0)
            undo() = 12
            undo() = 11
            2 * addRow(1, 0)
            # 13 of them; the 14th is remembered too, the 15th makes it no more.
            addRow(1, 0)
            undo() = 13
            addRow(1, 0)
            addRow(1, 0)
            undo() = 13
            undo() = 12
            undo() = 11
            undo() = 10
            undo() = 9
            undo() = 8
            undo() = 7
            undo() = 6
            undo() = 5
            undo() = 4
            undo() = 3
            undo() = 2
            undo() = 1
            about(1) = 2
            undo() = 0
            about(1) = 1
            undo() ! state
            """);
        edges.of(22, "when one more is remembered, the oldest one is forgotten.", """
            14 * addRow(1, 0)
            13 * undo()
            undo() = 0
            about(1) = 0
            new
            15 * addRow(1, 0)
            13 * undo()
            undo() = 0
            about(1) = 1
            undo() ! state
            new
            # Twice around, and one more.
            24 * addRow(1, 0)
            4 * setAmount(0, 0, 1)
            setAmount(0, 0, 2)
            13 * undo()
            undo() = 0
            about(1) = 15
            amount(0, 0) = 0
            undo() ! state
            new
            # What an undo took back makes room again.
            14 * addRow(1, 0)
            3 * undo()
            3 * addRow(2, 0)
            13 * undo()
            undo() = 0
            about(1) = 0
            new
            14 * addRow(1, 0)
            3 * undo()
            4 * addRow(2, 0)
            13 * undo()
            undo() = 0
            about(1) = 1
            undo() ! state
            """);
    }

    private static void eachAction(Edges edges) {
        edges.of(22, "Before each action, the state is remembered.", """
            type T2100r3+01-02kn1r2+03+04n6h13s00011s00010
            load() = 2
            clearText()
            errorPosition() = 0
            addRow(6, 5) = 2
            undo() = 0
            about(1) = 2
            setAmount(1, 1, 99) = 4
            undo() = 0
            amount(1, 1) = 4
            keep(0, false)
            undo() = 0
            row(0, 2) = 1
            removeRow(0) = 2
            undo() = 0
            about(1) = 2
            about(2) = 2
            row(0, 0) = 3
            row(0, 1) = 1
            row(0, 2) = 1
            amount(0, 1) = -2
            span(0, 2) = 1
            span(1, 2) = 0
            addSpan(0, 1, true) = 2
            undo() = 0
            about(2) = 2
            removeSpan(0)
            undo() = 0
            about(2) = 2
            span(0, 2) = 1
            setHeight(0, 40)
            undo() = 0
            about(3) = 10
            setHeight(1, 4)
            undo() = 0
            about(4) = 0
            setHeight(2, 1)
            undo() = 0
            note(1) = 3
            undo() ! state
            """);
    }

    private static void wholeState(Edges edges) {
        String full = """
            type T4400r1+01+02+03+04
            load() = 1
            22 * addRow(1, 0)
            addRow(6, 6)
            setAmount(23, 0, -99)
            setAmount(23, 3, 99)
            keep(22, true)
            keep(23, true)
            5 * addSpan(0, 1, true)
            addSpan(21, 23, false)
            """;
        String seen = """
            about(1) = 24
            about(2) = 6
            row(22, 1) = 0
            row(22, 2) = 1
            row(23, 0) = 6
            row(23, 1) = 6
            row(23, 2) = 1
            amount(22, 3) = 0
            amount(23, 0) = -99
            amount(23, 3) = 99
            span(4, 0) = 0
            span(5, 0) = 21
            span(5, 1) = 23
            span(5, 2) = 0
            """;
        // The last rows and the last span of a full table are remembered and stored as the first ones are.
        edges.of(22, "Before each action, the state", full + """
            removeRow(0) = 5
            addRow(1, 1)
            keep(22, false)
            undo() = 13
            undo() = 12
            undo() = 11
            """ + seen);
        edges.of(30, "Replaces the state by the one in a save slot,", full + """
            save(1) = 24
            removeRow(0) = 5
            addRow(1, 1)
            keep(22, false)
            restore(1) = 24
            """ + seen);
    }

    private static void changeNothing(Edges edges) {
        edges.of(22, "Each call of one of them that does not throw an exception is an action, also if nothing becomes"
                + " different (undo is none).", """
            type T1200r1+07r1+00
            load() = 2
            setAmount(0, 0, 7) = 7
            undo() = 0
            keep(0, false)
            undo() = 0
            setHeight(0, 20)
            undo() = 0
            setHeight(1, 0)
            undo() = 0
            setHeight(2, 1)
            undo() = 0
            # Five of them at once, and 14 that push the only real one out.
            setAmount(0, 0, 7)
            keep(1, false)
            setHeight(0, 20)
            setHeight(1, 0)
            setHeight(7, 1)
            undo() = 4
            4 * undo()
            setAmount(0, 0, 9) = 7
            14 * keep(0, false)
            13 * undo()
            undo() = 0
            amount(0, 0) = 9
            # An undo can't be undone.
            undo() ! state
            # A call that throws is no action.
            setAmount(0, 0, 100) ! argument
            undo() ! state
            """);
    }

    private static void stateAlone(Edges edges) {
        edges.of(22, "the state, which consists of everything but the text and the save slots.", """
            addRow(1, 0)
            type T1060r6+00
            save(0)
            addRow(2, 0)
            save(1)
            clearText()
            type T1070
            undo() = 1
            # The text is as it was typed last, the slots as they were saved last.
            clearText() = 5
            restore(1) = 2
            row(1, 0) = 2
            restore(0) = 1
            """);
        edges.of(30, "load and restore are not actions.", """
            addRow(1, 0)
            save(0)
            restore(0) = 1
            undo() ! state
            addRow(1, 0)
            undo() = 0
            about(1) = 1
            """);
        edges.of(29, "The methods in the section \"actions\" change the state,", """
            # save is none of them: it is not remembered, and forgets nothing.
            save(0) = 0
            undo() ! state
            addRow(1, 0)
            save(1) = 1
            undo() = 0
            about(1) = 0
            """);
    }

    private static void otherMethods(Edges edges) {
        edges.of(22, "The methods in the section \"actions\" change the state,", RICH + """
            # No other one does, whatever it is asked.
            still about(0) = 2
            still about(5) = 2
            still about(6) = 1
            still about(7) = 1
            still row(7, 3) = 0
            still row(7, 4) = 1
            still amount(7, 1) = -99
            still span(1, 3) = 1
            still note(1) = 3
            still page(1, 2) = 19
            still brought(1, 1) = -2
            still carried(1, 1) = -97
            still richest(0) = 1
            still errorPosition() = NONE
            """);
        edges.of(23, "what would be; these and all following methods up to the save slots change nothing.", RICH + """
            still heightFor(1) = 23
            still heightFor(24) = 19
            """);
        edges.of(24, "what would be; these and all following methods up to the save slots change nothing.", RICH
                + "still evenest() = 7025\n");
        edges.of(25, "what would be; these and all following methods up to the save slots change nothing.", RICH + """
            still evenCut(0) = 0
            still evenCut(1) = 7
            still evenCut(2) = NONE
            """);
        edges.of(26, "what would be; these and all following methods up to the save slots change nothing.", RICH + """
            still emptyFrom(0) = 5
            still emptyFrom(1) = NONE
            still emptyFrom(7) = 6
            """);
        edges.of(27, "what would be; these and all following methods up to the save slots change nothing.", RICH + """
            still runScript(3, 166002000530010) = NONE
            still runScript(3, 400005006051000) = NONE
            still runScript(2, 4000099999) = 1
            """);
        edges.of(28, "what would be; these and all following methods up to the save slots change nothing.", RICH + """
            still simulate(1, 99)
            still simulate(least, 1)
            """);
    }

    private static void severalExceptions(Edges edges) {
        String sentence = "If several exceptions apply to a call, the one that its description names first is thrown.";
        edges.of(2, sentence, """
            160 * append(107)
            append(-1) ! argument
            append(256) ! argument
            append(255) ! state
            """);
        edges.of(7, sentence, """
            row(0, 5) ! index
            addRow(1, 0)
            row(-1, -1) ! index
            row(1, 5) ! index
            row(0, 5) ! argument
            """);
        edges.of(9, sentence, """
            span(0, 4) ! index
            2 * addRow(1, 0)
            addSpan(0, 1, true)
            span(-1, -1) ! index
            span(1, 4) ! index
            span(0, 4) ! argument
            """);
        edges.of(11, sentence, """
            page(0, 6) ! index
            addRow(1, 0)
            page(-1, -1) ! index
            page(1, 6) ! index
            page(0, 6) ! argument
            """);
        edges.of(15, sentence, """
            24 * addRow(1, 0)
            addRow(0, 0) ! argument
            addRow(7, 0) ! argument
            addRow(1, -1) ! argument
            addRow(1, 7) ! argument
            addRow(1, 6) ! state
            """);
        edges.of(16, sentence, """
            setAmount(0, 0, 100) ! index
            addRow(1, 0)
            setAmount(-1, 0, -100) ! index
            setAmount(1, 0, 100) ! index
            setAmount(0, -1, 100) ! index
            setAmount(0, 1, -100) ! index
            setAmount(0, 0, 100) ! argument
            """);
    }

    private static void moreExceptions(Edges edges) {
        String sentence = "If several exceptions apply to a call, the one that its description names first is thrown.";
        edges.of(19, sentence, """
            addSpan(1, 0, true) ! index
            2 * addRow(1, 0)
            addSpan(2, 1, true) ! index
            addSpan(2, 2, true) ! index
            addSpan(-1, -1, true) ! index
            addSpan(0, -1, true) ! index
            6 * addSpan(0, 1, true)
            addSpan(0, 2, true) ! index
            addSpan(2, 1, true) ! index
            addSpan(2, 2, true) ! index
            addSpan(1, 1, true) ! argument
            addSpan(1, 0, true) ! argument
            addSpan(0, 1, true) ! state
            """);
        edges.of(30, sentence, """
            restore(-1) ! index
            restore(2) ! index
            restore(0) ! state
            restore(1) ! state
            """);
        edges.of(30, "IndexOutOfBoundsException means that a row, a column, a span or a page does not exist, or that a"
                + " save slot is not 0 or 1.", """
            row(0, 0) ! index
            richest(1) ! index
            span(0, 0) ! index
            page(0, 0) ! index
            save(2) ! index
            restore(2) ! index
            """);
    }

    private static final String NOTHING = "A call that throws an exception changes nothing.";

    private static void refusedText(Edges edges) {
        edges.of(2, NOTHING, FULL + """
            append(107) ! state
            append(0) ! state
            append(-1) ! argument
            append(256) ! argument
            """);
        edges.of(5, NOTHING, RICH + """
            append(120)
            load() ! state
            clearText()
            load() ! state
            """);
    }

    private static void refusedQuestions(Edges edges) {
        edges.of(6, NOTHING, RICH + """
            about(-1) ! argument
            about(8) ! argument
            """);
        edges.of(7, NOTHING, RICH + """
            row(-1, 0) ! index
            row(8, 4) ! index
            row(7, 5) ! argument
            """);
        edges.of(8, NOTHING, RICH + """
            amount(8, 0) ! index
            amount(7, 2) ! index
            """);
        edges.of(9, NOTHING, RICH + """
            span(6, 3) ! index
            span(5, 4) ! argument
            """);
        edges.of(10, NOTHING, RICH + """
            note(0) ! argument
            note(7) ! argument
            """);
        edges.of(11, NOTHING, RICH + """
            page(2, 2) ! index
            page(1, 6) ! argument
            """);
        edges.of(12, NOTHING, RICH + """
            brought(2, 0) ! index
            brought(1, 2) ! index
            """);
        edges.of(13, NOTHING, RICH + """
            carried(2, 0) ! index
            carried(1, 2) ! index
            """);
        edges.of(14, NOTHING, RICH + """
            richest(-1) ! index
            richest(2) ! index
            """);
    }

    private static void refusedActions(Edges edges) {
        edges.of(15, NOTHING, FULL + """
            addRow(0, 0) ! argument
            addRow(1, 7) ! argument
            addRow(1, 0) ! state
            """);
        edges.of(16, NOTHING, RICH + """
            setAmount(8, 0, 1) ! index
            setAmount(7, 2, 1) ! index
            setAmount(7, 1, 100) ! argument
            """);
        edges.of(17, NOTHING, RICH + """
            keep(-1, true) ! index
            keep(8, true) ! index
            """);
        edges.of(18, NOTHING, RICH + """
            removeRow(-1) ! index
            removeRow(8) ! index
            """);
        edges.of(19, NOTHING, RICH + """
            addSpan(0, 8, true) ! index
            addSpan(1, 1, true) ! argument
            addSpan(0, 1, true) ! state
            """);
        edges.of(20, NOTHING, RICH + """
            removeSpan(-1) ! index
            removeSpan(6) ! index
            """);
        edges.of(21, NOTHING, RICH + """
            setHeight(0, 41) ! argument
            setHeight(1, 5) ! argument
            setHeight(2, 4) ! argument
            setHeight(8, 1) ! argument
            """);
        edges.of(22, NOTHING, RICH + """
            14 * undo()
            undo() ! state
            """);
    }

    private static void refusedOthers(Edges edges) {
        edges.of(23, NOTHING, RICH + """
            heightFor(0) ! argument
            heightFor(25) ! argument
            """);
        edges.of(25, NOTHING, RICH + "evenCut(-1) ! argument\n");
        edges.of(26, NOTHING, RICH + """
            emptyFrom(-1) ! index
            emptyFrom(8) ! index
            """);
        edges.of(27, NOTHING, RICH + """
            runScript(0, 0) ! argument
            runScript(4, 0) ! argument
            runScript(1, 100000) ! argument
            runScript(3, -1) ! argument
            """);
        edges.of(28, NOTHING, RICH + """
            simulate(1, 0) ! argument
            simulate(1, 100) ! argument
            """);
        edges.of(29, NOTHING, RICH + """
            save(-1) ! index
            save(2) ! index
            """);
        edges.of(30, NOTHING, RICH + """
            restore(-1) ! index
            restore(2) ! index
            load()
            addRow(1, 0)
            save(1)
            restore(0) ! state
            """);
    }
}
