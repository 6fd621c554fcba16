/** The sentences about the table itself: promises 1 and 6 to 10, and "The table" among the terms. */
final class EdgesOfTable {
    private EdgesOfTable() {
    }

    static void test(Edges edges) {
        newObject(edges);
        heightsAtFirst(edges);
        columnsAndRows(edges);
        rowsAndSpans(edges);
        about(edges);
        aboutPages(edges);
        row(edges);
        rowAndPages(edges);
        amount(edges);
        span(edges);
        note(edges);
    }

    private static void newObject(Edges edges) {
        edges.of(1, "Creates a table of 1 column without rows.", """
            about(0) = 1
            about(1) = 0
            row(0, 0) ! index
            row(-1, 0) ! index
            amount(0, 0) ! index
            addRow(1, 0) = 0
            amount(0, 0) = 0
            amount(0, -1) ! index
            amount(0, 1) ! index
            """);
        edges.of(1, "A new object has 1 column and no rows.", """
            richest(0) = NONE
            richest(1) ! index
            removeRow(0) ! index
            keep(0, true) ! index
            setAmount(0, 0, 0) ! index
            addSpan(0, 1, true) ! index
            emptyFrom(0) ! index
            evenest() = 0
            evenCut(0) = NONE
            heightFor(1) = 6
            """);
        edges.of(1, "A new object", """
            # Nothing is in it that could be undone, restored or loaded.
            about(2) = 0
            span(0, 0) ! index
            removeSpan(0) ! index
            undo() ! state
            restore(0) ! state
            restore(1) ! state
            errorPosition() = 0
            load() ! state
            clearText() = 0
            """);
    }

    private static void heightsAtFirst(Edges edges) {
        edges.of(1, "The page has a height of 6 to 40 lines, at first 20;", """
            about(3) = 20
            # 20 lines and no more: the heading, 18 lines of rows, and 1 for the sums carried forward.
            3 * addRow(6, 0)
            addRow(2, 0)
            page(0, 1) = 2
            page(0, 3) = 0
            """);
        edges.of(1, "the heading has a height of 0 to 4 lines, at first 1.", """
            about(4) = 1
            addRow(3, 0)
            page(0, 2) = 4
            """);
        edges.of(1, "Each of the notes 1 to 6 has a height of 1 to 3 lines, at first 1.", """
            note(0) ! argument
            note(1) = 1
            note(2) = 1
            note(3) = 1
            note(4) = 1
            note(5) = 1
            note(6) = 1
            note(7) ! argument
            """);
        edges.of(1, "The constants: NONE = -999999: There is no such result.", """
            richest(0) = -999999
            evenCut(0) = -999999
            """);
        edges.of(1, "An object is used for at most 512 calls after it has been made;", """
            # The 510th to the 512th call are promised as the first one is.
            24 * addRow(1, 0)
            3 * addSpan(0, 23, true)
            240 * setAmount(23, 0, -99)
            240 * keep(22, true)
            removeRow(0) = 0
            addRow(6, 6) = 23
            undo() = 13
            undo() = 12
            about(1) = 24
            """);
    }

    private static void columnsAndRows(Edges edges) {
        edges.of(5, "The table has 1 to 4 columns, numbered from 0, and", """
            type T0200
            errorPosition() = 1
            load() ! state
            new
            type T1200r1-11
            load() = 1
            about(0) = 1
            amount(0, -1) ! index
            amount(0, 0) = -11
            amount(0, 1) ! index
            new
            type T4200r1-11+22-33+44
            load() = 1
            about(0) = 4
            amount(0, -1) ! index
            amount(0, 0) = -11
            amount(0, 3) = 44
            amount(0, 4) ! index
            new
            type T5200
            errorPosition() = 1
            load() ! state
            """);
        edges.of(15, "at most 24 rows, numbered from 0.", """
            addRow(3, 0) = 0
            22 * addRow(1, 0)
            about(1) = 23
            addRow(2, 0) = 23
            about(1) = 24
            addRow(1, 0) ! state
            row(-1, 0) ! index
            row(0, 0) = 3
            row(23, 0) = 2
            row(24, 0) ! index
            """);
        edges.of(15, "A row has a height of 1 to 6 lines, an amount", """
            addRow(0, 0) ! argument
            addRow(1, 0) = 0
            addRow(6, 0) = 1
            addRow(7, 0) ! argument
            row(0, 0) = 1
            row(1, 0) = 6
            """);
        edges.of(16, "an amount from -99 to 99 in each column,", """
            type T2200r1+99-99
            load() = 1
            amount(0, 0) = 99
            amount(0, 1) = -99
            setAmount(0, 0, -100) ! argument
            setAmount(0, 0, -99) = 99
            setAmount(0, 1, 99) = -99
            setAmount(0, 1, 100) ! argument
            amount(0, 0) = -99
            amount(0, 1) = 99
            """);
        edges.of(15, "a note from 1 to 6 or none (0), and", """
            addRow(1, -1) ! argument
            addRow(1, 0) = 0
            addRow(1, 1) = 1
            addRow(1, 6) = 2
            addRow(1, 7) ! argument
            row(0, 1) = 0
            row(1, 1) = 1
            row(2, 1) = 6
            """);
    }

    private static void rowsAndSpans(Edges edges) {
        edges.of(17, "a mark whether it stays with the next row.", """
            # The last row has this mark, too, though there is no next one.
            addRow(1, 0)
            keep(0, true) = 1
            row(0, 2) = 1
            keep(0, false) = 1
            row(0, 2) = 0
            """);
        edges.of(19, "There are at most 6 spans, numbered from 0 in the order in which they were added.", """
            3 * addRow(1, 0)
            addSpan(1, 2, true) = 0
            4 * addSpan(0, 2, false)
            about(2) = 5
            addSpan(0, 1, true) = 5
            about(2) = 6
            addSpan(0, 1, true) ! state
            span(-1, 0) ! index
            span(0, 0) = 1
            span(5, 1) = 1
            span(6, 0) ! index
            """);
        edges.of(19, "A span has a first and a last row (a later one), and a mark whether it may be cut.", """
            3 * addRow(1, 0)
            addSpan(1, 0, true) ! argument
            addSpan(1, 1, true) ! argument
            addSpan(1, 2, true) = 0
            addSpan(1, 2, false) = 1
            span(0, 0) = 1
            span(0, 1) = 2
            span(0, 2) = 1
            span(1, 2) = 0
            """);
        edges.of(21, "The page has a height of 6 to 40 lines, at first 20;", """
            setHeight(0, 5) ! argument
            setHeight(0, 6) = 0
            about(3) = 6
            setHeight(0, 40) = 0
            about(3) = 40
            setHeight(0, 41) ! argument
            """);
        edges.of(21, "the heading has a height of 0 to 4 lines, at first 1.", """
            setHeight(1, -1) ! argument
            setHeight(1, 4) = 0
            about(4) = 4
            setHeight(1, 0) = 0
            about(4) = 0
            setHeight(1, 5) ! argument
            """);
        edges.of(21, "Each of the notes 1 to 6 has a height of 1 to 3 lines, at first 1.", """
            setHeight(2, 0) ! argument
            setHeight(2, 3) = 0
            setHeight(2, 4) ! argument
            setHeight(7, 0) ! argument
            setHeight(7, 2) = 0
            setHeight(7, 4) ! argument
            note(1) = 3
            note(2) = 1
            note(5) = 1
            note(6) = 2
            setHeight(2, 1) = 0
            note(1) = 1
            """);
    }

    private static void about(Edges edges) {
        edges.of(6, "Throws IllegalArgumentException if what is not 0 to 7", """
            about(-1) ! argument
            about(0) = 1
            about(7) = 0
            about(8) ! argument
            about(least) ! argument
            about(most) ! argument
            """);
        edges.of(6, "what: 0: the columns;", """
            still about(0) = 1
            type T4400
            about(0) = 1
            load() = 0
            still about(0) = 4
            """);
        edges.of(6, "1: the number of rows;", """
            still about(1) = 0
            addRow(1, 0)
            still about(1) = 1
            22 * addRow(1, 0)
            about(1) = 23
            addRow(1, 0)
            about(1) = 24
            addRow(1, 0) ! state
            about(1) = 24
            removeRow(23)
            about(1) = 23
            """);
        edges.of(6, "2: of spans;", """
            2 * addRow(1, 0)
            still about(2) = 0
            5 * addSpan(0, 1, true)
            about(2) = 5
            addSpan(0, 1, true)
            still about(2) = 6
            addSpan(0, 1, true) ! state
            about(2) = 6
            removeSpan(0)
            about(2) = 5
            """);
        edges.of(6, "3: the height of the page;", """
            setHeight(0, 6)
            still about(3) = 6
            setHeight(0, 40)
            still about(3) = 40
            """);
        edges.of(6, "4: of the heading;", """
            setHeight(1, 0)
            still about(4) = 0
            setHeight(1, 4)
            still about(4) = 4
            """);
    }

    private static void aboutPages(Edges edges) {
        edges.of(6, "5: the number of pages;", """
            still about(5) = 0
            setHeight(0, 6)
            setHeight(1, 4)
            addRow(2, 0)
            still about(5) = 1
            23 * addRow(2, 0)
            # A row of 2 lines needs 7 with the heading and a sum: each has a page of its own.
            still about(5) = 24
            removeRow(23)
            about(5) = 23
            """);
        edges.of(6, "6: of overfull pages;", """
            type T1060r6+00
            load()
            # 6 lines on a page of 6.
            still about(6) = 0
            setHeight(1, 1)
            # 7 lines on a page of 6.
            still about(6) = 1
            setHeight(0, 7)
            about(6) = 0
            """);
        edges.of(6, "7: of spans that are cut by the pages", """
            type T1060r4+00r4+00r4+00s00011s01021s00021s01020
            load() = 3
            # The row 0 has a page of its own; the span that may not be cut has the rows 1 and 2 on one.
            about(5) = 2
            still about(7) = 2
            setHeight(0, 11)
            about(5) = 2
            about(7) = 2
            setHeight(0, 12)
            about(5) = 1
            still about(7) = 0
            # Asked at once, behind calls that tell no number of pages.
            undo()
            about(7) = 2
            setHeight(0, 6)
            removeRow(2)
            about(7) = 2
            removeRow(1)
            about(7) = 0
            2 * addRow(6, 0)
            addSpan(0, 1, true)
            about(7) = 1
            undo()
            about(7) = 0
            """);
    }

    private static void row(Edges edges) {
        edges.of(7, "Throws IndexOutOfBoundsException if there is no such row", """
            row(0, 0) ! index
            row(-1, 0) ! index
            addRow(2, 0)
            addRow(3, 0)
            row(-1, 0) ! index
            row(0, 0) = 2
            row(1, 0) = 3
            row(2, 0) ! index
            row(least, 0) ! index
            row(most, 0) ! index
            removeRow(0)
            row(1, 0) ! index
            """);
        edges.of(7, "Throws IllegalArgumentException if what is not 0 to 4", """
            addRow(2, 3)
            row(0, -1) ! argument
            row(0, 0) = 2
            row(0, 4) = 0
            row(0, 5) ! argument
            row(0, least) ! argument
            row(0, most) ! argument
            """);
        edges.of(7, "what: 0: its height;", """
            addRow(1, 0)
            addRow(6, 0)
            still row(0, 0) = 1
            still row(1, 0) = 6
            """);
        edges.of(7, "1: its note, 0 without one;", """
            addRow(1, 0)
            addRow(1, 1)
            addRow(1, 6)
            still row(0, 1) = 0
            still row(1, 1) = 1
            still row(2, 1) = 6
            """);
        edges.of(7, "2: 1 if it stays with the next one, otherwise 0;", """
            2 * addRow(1, 0)
            still row(0, 2) = 0
            keep(0, true)
            still row(0, 2) = 1
            row(1, 2) = 0
            keep(0, false)
            row(0, 2) = 0
            """);
    }

    private static void rowAndPages(Edges edges) {
        edges.of(7, "3: 1 if the table can be cut behind it, otherwise 0 (0 for the last row, too);", """
            addRow(1, 0)
            still row(0, 3) = 0
            addRow(1, 0)
            still row(0, 3) = 1
            row(1, 3) = 0
            22 * addRow(1, 0)
            row(22, 3) = 1
            row(23, 3) = 0
            removeRow(23)
            row(22, 3) = 0
            row(21, 3) = 1
            """);
        edges.of(7, "A table can be cut behind a row if the row does not stay with the next one and", """
            3 * addRow(1, 0)
            keep(1, true)
            row(0, 3) = 1
            row(1, 3) = 0
            keep(1, false)
            row(1, 3) = 1
            """);
        edges.of(7, "there is no span that may not be cut, whose first row is this row or one before it and whose last"
                + " row is behind it.", """
            7 * addRow(1, 0)
            addSpan(2, 4, false)
            row(1, 3) = 1
            row(2, 3) = 0
            row(3, 3) = 0
            row(4, 3) = 1
            row(5, 3) = 1
            # Two spans that may not be cut, one at the other's end: it can be cut between them.
            addSpan(5, 6, false)
            row(4, 3) = 1
            row(5, 3) = 0
            row(6, 3) = 0
            # And where they have a row in common it can't.
            addSpan(4, 5, false)
            row(4, 3) = 0
            removeSpan(2)
            # A span that may be cut hinders nothing.
            removeSpan(0)
            addSpan(2, 4, true)
            row(2, 3) = 1
            row(3, 3) = 1
            row(5, 3) = 0
            new
            type T1400r1+00r1+00r1+00s00020
            load()
            row(0, 3) = 0
            row(1, 3) = 0
            row(2, 3) = 0
            """);
        edges.of(7, "4: its page", """
            type T1060r2+00r2+00r2+00r2+00r2+00
            load()
            # Two rows a page, but for the last one.
            still row(0, 4) = 0
            row(1, 4) = 0
            still row(2, 4) = 1
            row(3, 4) = 1
            row(4, 4) = 2
            setHeight(0, 7)
            row(2, 4) = 0
            row(3, 4) = 1
            row(4, 4) = 1
            setHeight(0, 40)
            row(4, 4) = 0
            """);
    }

    private static void amount(Edges edges) {
        edges.of(8, "Throws IndexOutOfBoundsException if there is no such row or column", """
            amount(0, 0) ! index
            type T2200r1+01+02r1+03+04
            load()
            amount(-1, 0) ! index
            amount(0, 0) = 1
            amount(1, 1) = 4
            amount(2, 0) ! index
            amount(2, 1) ! index
            amount(0, -1) ! index
            amount(0, 2) ! index
            amount(1, 2) ! index
            amount(-1, -1) ! index
            amount(least, 0) ! index
            amount(most, 0) ! index
            amount(0, least) ! index
            amount(0, most) ! index
            """);
        edges.of(8, "Returns the amount.", """
            type T4200r1-99+00+99+01
            load()
            addRow(1, 0)
            still amount(0, 0) = -99
            still amount(0, 1) = 0
            still amount(0, 2) = 99
            still amount(0, 3) = 1
            amount(1, 0) = 0
            amount(1, 3) = 0
            """);
    }

    private static void span(Edges edges) {
        edges.of(9, "Throws IndexOutOfBoundsException if there is no such span", """
            span(0, 0) ! index
            3 * addRow(1, 0)
            span(0, 0) ! index
            addSpan(0, 1, true)
            addSpan(1, 2, true)
            span(-1, 0) ! index
            span(0, 0) = 0
            span(1, 0) = 1
            span(2, 0) ! index
            span(least, 0) ! index
            span(most, 0) ! index
            removeSpan(0)
            span(1, 0) ! index
            """);
        edges.of(9, "Throws IllegalArgumentException if what is not 0 to 3", """
            3 * addRow(1, 0)
            addSpan(1, 2, true)
            span(0, -1) ! argument
            span(0, 0) = 1
            span(0, 3) = 1
            span(0, 4) ! argument
            span(0, least) ! argument
            span(0, most) ! argument
            """);
        edges.of(9, "what: 0: its first row;", """
            24 * addRow(1, 0)
            addSpan(0, 23, true)
            addSpan(22, 23, true)
            still span(0, 0) = 0
            still span(1, 0) = 22
            """);
        edges.of(9, "1: its last row;", """
            24 * addRow(1, 0)
            addSpan(0, 23, true)
            addSpan(0, 1, true)
            still span(0, 1) = 23
            still span(1, 1) = 1
            """);
        edges.of(9, "2: 1 if it may be cut, otherwise 0;", """
            2 * addRow(1, 0)
            addSpan(0, 1, true)
            addSpan(0, 1, false)
            still span(0, 2) = 1
            still span(1, 2) = 0
            """);
        edges.of(9, "3: the number of pages on which it has rows", """
            type T1064r2+00r2+00r2+00r2+00s00011s01021s00031s02031
            load()
            about(5) = 4
            still span(0, 3) = 2
            span(1, 3) = 2
            still span(2, 3) = 4
            span(3, 3) = 2
            setHeight(0, 40)
            still span(0, 3) = 1
            span(2, 3) = 1
            # The rows 0 and 1 on a page then.
            setHeight(0, 10)
            about(5) = 3
            span(0, 3) = 1
            span(1, 3) = 2
            span(2, 3) = 3
            span(3, 3) = 2
            # Asked at once, behind calls that tell no number of pages.
            undo()
            span(2, 3) = 1
            setHeight(0, 6)
            save(0)
            setHeight(0, 40)
            restore(0)
            span(2, 3) = 4
            new
            # Of an object that has never had a text, from one page to as many as there can be.
            setHeight(0, 6)
            setHeight(1, 4)
            24 * addRow(2, 0)
            addSpan(0, 23, true)
            addSpan(22, 23, false)
            addSpan(21, 22, true)
            span(0, 3) = 23
            span(1, 3) = 1
            span(2, 3) = 2
            removeSpan(1)
            span(0, 3) = 24
            """);
    }

    private static void note(Edges edges) {
        edges.of(10, "Throws IllegalArgumentException if n is not 1 to 6", """
            note(0) ! argument
            note(1) = 1
            note(6) = 1
            note(7) ! argument
            note(-1) ! argument
            note(least) ! argument
            note(most) ! argument
            """);
        edges.of(10, "Returns its height.", """
            setHeight(2, 3)
            setHeight(7, 2)
            still note(1) = 3
            still note(2) = 1
            still note(5) = 1
            still note(6) = 2
            """);
    }
}
