/** The sentences about the actions: promises 15 to 21. */
final class EdgesOfActions {
    private EdgesOfActions() {
    }

    static void test(Edges edges) {
        addRow(edges);
        addRowFails(edges);
        setAmount(edges);
        keep(edges);
        removeRow(edges);
        removeRowNumbers(edges);
        removeRowFromSpans(edges);
        addSpan(edges);
        addSpanFails(edges);
        removeSpan(edges);
        setHeight(edges);
        setHeightFails(edges);
    }

    private static void addRow(Edges edges) {
        edges.of(15, "Adds a row behind all others, with the amounts 0; it does not stay with the next one.", """
            type T4200r6+99-99+99-99kn6r5+11+22+33+44k
            load() = 2
            # A row in the place of one that has been removed has nothing of it.
            removeRow(1)
            addRow(1, 0) = 1
            amount(1, 0) = 0
            amount(1, 1) = 0
            amount(1, 2) = 0
            amount(1, 3) = 0
            row(1, 0) = 1
            row(1, 1) = 0
            row(1, 2) = 0
            # The others are as they were; the row 0 stays with the new one.
            amount(0, 3) = -99
            row(0, 2) = 1
            row(0, 3) = 0
            22 * addRow(1, 0)
            keep(23, true)
            setAmount(23, 3, 9)
            removeRow(23)
            addRow(2, 2) = 23
            row(23, 2) = 0
            amount(23, 3) = 0
            """);
        edges.of(15, "Returns its number.", """
            addRow(1, 0) = 0
            addRow(1, 0) = 1
            21 * addRow(1, 0)
            addRow(1, 0) = 23
            removeRow(0)
            addRow(1, 0) = 23
            """);
        edges.of(15, "height: 1 to 6", """
            addRow(0, 6) ! argument
            addRow(1, 6) = 0
            addRow(6, 6) = 1
            addRow(7, 6) ! argument
            row(0, 0) = 1
            row(1, 0) = 6
            """);
        edges.of(15, "note: 0 to 6", """
            addRow(6, -1) ! argument
            addRow(6, 0) = 0
            addRow(6, 6) = 1
            addRow(6, 7) ! argument
            row(0, 1) = 0
            row(1, 1) = 6
            """);
    }

    private static void addRowFails(Edges edges) {
        edges.of(15, "Throws IllegalArgumentException if height or note is out of range", """
            addRow(0, 0) ! argument
            addRow(7, 0) ! argument
            addRow(1, -1) ! argument
            addRow(1, 7) ! argument
            addRow(0, 7) ! argument
            addRow(-1, 0) ! argument
            addRow(least, 0) ! argument
            addRow(most, 0) ! argument
            addRow(1, least) ! argument
            addRow(1, most) ! argument
            addRow(1, 0) = 0
            """);
        edges.of(15, "Throws IllegalStateException if there are 24 rows", """
            23 * addRow(1, 0)
            addRow(6, 6) = 23
            addRow(1, 0) ! state
            addRow(6, 6) ! state
            removeRow(23) = 0
            addRow(1, 0) = 23
            addRow(1, 0) ! state
            undo() = 13
            addRow(2, 0) = 23
            """);
    }

    private static void setAmount(Edges edges) {
        edges.of(16, "v: -99 to 99", """
            addRow(1, 0)
            setAmount(0, 0, -100) ! argument
            setAmount(0, 0, -99) = 0
            amount(0, 0) = -99
            setAmount(0, 0, 99) = -99
            amount(0, 0) = 99
            setAmount(0, 0, 100) ! argument
            """);
        edges.of(16, "Throws IllegalArgumentException if v is out of range", """
            addRow(1, 0)
            setAmount(0, 0, 7) = 0
            setAmount(0, 0, -100) ! argument
            setAmount(0, 0, 100) ! argument
            setAmount(0, 0, least) ! argument
            setAmount(0, 0, most) ! argument
            amount(0, 0) = 7
            """);
        edges.of(16, "Throws IndexOutOfBoundsException if there is no such row or column", """
            setAmount(0, 0, 1) ! index
            type T2200r1+01+02r1+03+04
            load()
            setAmount(-1, 0, 1) ! index
            setAmount(0, 0, 5) = 1
            setAmount(1, 1, 6) = 4
            setAmount(2, 0, 1) ! index
            setAmount(0, -1, 1) ! index
            setAmount(0, 2, 1) ! index
            setAmount(1, 2, 1) ! index
            setAmount(least, 0, 1) ! index
            setAmount(most, 0, 1) ! index
            setAmount(0, least, 1) ! index
            setAmount(0, most, 1) ! index
            """);
        edges.of(16, "Returns the previous amount.", """
            type T4200r1+01+02+03+04r1-05-06-07-08
            load()
            setAmount(0, 0, 0) = 1
            setAmount(1, 3, 99) = -8
            setAmount(1, 3, -99) = 99
            setAmount(1, 3, -99) = -99
            # No other amount is touched.
            amount(0, 1) = 2
            amount(0, 3) = 4
            amount(1, 0) = -5
            amount(1, 2) = -7
            """);
    }

    private static void keep(Edges edges) {
        edges.of(17, "Throws IndexOutOfBoundsException if there is no such row", """
            keep(0, true) ! index
            keep(0, false) ! index
            2 * addRow(1, 0)
            keep(-1, true) ! index
            keep(0, true) = 1
            keep(1, true) = 1
            keep(2, true) ! index
            keep(2, false) ! index
            keep(least, true) ! index
            keep(most, false) ! index
            """);
        edges.of(17, "Returns the number of pages then.", """
            type T1064r6+00r6+00r6+00
            load()
            about(5) = 3
            keep(0, true) = 2
            keep(1, true) = 1
            keep(2, true) = 1
            keep(0, false) = 2
            keep(1, false) = 3
            """);
        edges.of(17, "is: whether it does then", """
            2 * addRow(1, 0)
            keep(0, true)
            row(0, 2) = 1
            row(1, 2) = 0
            keep(0, true)
            row(0, 2) = 1
            keep(0, false)
            row(0, 2) = 0
            keep(0, false)
            row(0, 2) = 0
            """);
    }

    private static void removeRow(Edges edges) {
        edges.of(18, "Throws IndexOutOfBoundsException if there is no such row", """
            removeRow(0) ! index
            2 * addRow(1, 0)
            removeRow(-1) ! index
            removeRow(2) ! index
            removeRow(least) ! index
            removeRow(most) ! index
            removeRow(1) = 0
            removeRow(1) ! index
            removeRow(0) = 0
            removeRow(0) ! index
            """);
        edges.of(18, "Returns the number of spans that go.", """
            type T1200r1+00r1+00r1+00
            load()
            removeRow(2) = 0
            addRow(1, 0)
            addSpan(0, 2, true)
            # A row of a span that has two more.
            removeRow(1) = 0
            about(2) = 1
            removeRow(0) = 1
            about(2) = 0
            addRow(1, 0)
            6 * addSpan(0, 1, false)
            removeRow(1) = 6
            about(2) = 0
            removeRow(0) = 0
            """);
        edges.of(18, "the marks of all other rows stay.", """
            type T1200r1+00kr1+00r1+00kr1+00k
            load()
            removeRow(3)
            # The last row then; its mark has no effect before another row follows.
            row(2, 2) = 1
            row(2, 3) = 0
            removeRow(1)
            row(0, 2) = 1
            row(1, 2) = 1
            removeRow(0)
            row(0, 2) = 1
            addRow(1, 0)
            row(0, 2) = 1
            row(0, 3) = 0
            """);
    }

    private static void removeRowNumbers(Edges edges) {
        edges.of(18, "Removes a row; those behind it get numbers that are smaller by 1.", """
            type T4200r1+01+02+03+04n1r2+05+06+07+08n2kr3+09+10+11+12n3
            load()
            removeRow(2)
            about(1) = 2
            row(1, 0) = 2
            amount(1, 3) = 8
            row(2, 0) ! index
            undo()
            removeRow(1)
            row(0, 0) = 1
            row(1, 0) = 3
            row(1, 1) = 3
            row(1, 2) = 0
            amount(1, 0) = 9
            amount(1, 3) = 12
            undo()
            removeRow(0)
            row(0, 0) = 2
            row(0, 1) = 2
            row(0, 2) = 1
            row(1, 0) = 3
            amount(0, 0) = 5
            amount(1, 1) = 10
            row(2, 0) ! index
            new
            # Of a full table, the first row and the last one.
            addRow(5, 5)
            22 * addRow(1, 0)
            addRow(6, 6)
            removeRow(0) = 0
            row(0, 0) = 1
            row(22, 0) = 6
            row(22, 1) = 6
            row(23, 0) ! index
            removeRow(22) = 0
            row(21, 0) = 1
            row(22, 0) ! index
            """);
    }

    private static void removeRowFromSpans(Edges edges) {
        edges.of(18, "A span loses this row, and goes if it has only one row left;", """
            type T1200r1+00r1+00r1+00r1+00r1+00r1+00s01031s03040
            load()
            # The row before a span, its first row, one inside, its last one, and the one behind it.
            removeRow(0) = 0
            span(0, 0) = 0
            span(0, 1) = 2
            span(1, 0) = 2
            span(1, 1) = 3
            undo()
            removeRow(1) = 0
            span(0, 0) = 1
            span(0, 1) = 2
            undo()
            removeRow(2) = 0
            span(0, 0) = 1
            span(0, 1) = 2
            span(1, 0) = 2
            undo()
            removeRow(3) = 1
            about(2) = 1
            span(0, 0) = 1
            span(0, 1) = 2
            span(0, 2) = 1
            undo()
            removeRow(4) = 1
            about(2) = 1
            span(0, 0) = 1
            span(0, 1) = 3
            undo()
            removeRow(5) = 0
            span(0, 0) = 1
            span(0, 1) = 3
            span(1, 0) = 3
            span(1, 1) = 4
            new
            # Those behind a span that goes get smaller numbers.
            type T1200r1+00r1+00r1+00s00011s00020s01021s00020
            load()
            removeRow(0) = 1
            about(2) = 3
            span(0, 0) = 0
            span(0, 1) = 1
            span(0, 2) = 0
            span(1, 2) = 1
            span(2, 2) = 0
            span(3, 0) ! index
            removeRow(0) = 3
            about(2) = 0
            """);
    }

    private static void addSpan(Edges edges) {
        edges.of(19, "Returns its number.", """
            2 * addRow(1, 0)
            addSpan(0, 1, true) = 0
            addSpan(0, 1, true) = 1
            3 * addSpan(0, 1, false)
            addSpan(0, 1, true) = 5
            removeSpan(0)
            addSpan(0, 1, true) = 5
            """);
        edges.of(19, "Adds a span.", """
            24 * addRow(1, 0)
            # The shortest and the longest ones, and the same one twice.
            addSpan(0, 1, true) = 0
            addSpan(22, 23, true) = 1
            addSpan(0, 23, true) = 2
            addSpan(0, 23, true) = 3
            span(0, 1) = 1
            span(1, 0) = 22
            span(2, 0) = 0
            span(2, 1) = 23
            span(3, 1) = 23
            """);
        edges.of(19, "cut: whether it may be cut", """
            2 * addRow(1, 0)
            addSpan(0, 1, true)
            span(0, 2) = 1
            row(0, 3) = 1
            addSpan(0, 1, false)
            span(1, 2) = 0
            row(0, 3) = 0
            """);
    }

    private static void addSpanFails(Edges edges) {
        edges.of(19, "Throws IndexOutOfBoundsException if one of the rows does not exist", """
            addSpan(0, 1, true) ! index
            addRow(1, 0)
            addSpan(0, 1, true) ! index
            2 * addRow(1, 0)
            addSpan(-1, 2, true) ! index
            addSpan(0, 2, true) = 0
            addSpan(0, 3, true) ! index
            addSpan(3, 4, false) ! index
            addSpan(3, 2, true) ! index
            addSpan(2, -1, true) ! index
            addSpan(least, 2, true) ! index
            addSpan(most, 2, true) ! index
            addSpan(0, least, true) ! index
            addSpan(0, most, true) ! index
            """);
        edges.of(19, "Throws IllegalArgumentException if last is not greater than first", """
            3 * addRow(1, 0)
            addSpan(1, 0, true) ! argument
            addSpan(1, 1, true) ! argument
            addSpan(1, 2, true) = 0
            addSpan(0, 0, false) ! argument
            addSpan(2, 2, false) ! argument
            addSpan(2, 0, false) ! argument
            addSpan(0, 1, true) = 1
            """);
        edges.of(19, "Throws IllegalStateException if there are 6 spans", """
            2 * addRow(1, 0)
            5 * addSpan(0, 1, true)
            addSpan(0, 1, false) = 5
            addSpan(0, 1, true) ! state
            addSpan(0, 1, false) ! state
            removeSpan(5)
            addSpan(0, 1, true) = 5
            addSpan(0, 1, true) ! state
            """);
    }

    private static void removeSpan(Edges edges) {
        edges.of(20, "Throws IndexOutOfBoundsException if there is no such span", """
            removeSpan(0) ! index
            2 * addRow(1, 0)
            removeSpan(0) ! index
            2 * addSpan(0, 1, true)
            removeSpan(-1) ! index
            removeSpan(2) ! index
            removeSpan(least) ! index
            removeSpan(most) ! index
            removeSpan(1) = 1
            removeSpan(1) ! index
            removeSpan(0) = 1
            removeSpan(0) ! index
            """);
        edges.of(20, "Removes a span; those behind it get numbers that are smaller by 1.", """
            type T1200r1+00r1+00r1+00s00011s00020s01021s01020s00021s00010
            load()
            removeSpan(5)
            about(2) = 5
            span(4, 1) = 2
            span(5, 0) ! index
            undo()
            removeSpan(0)
            span(0, 1) = 2
            span(0, 2) = 0
            span(1, 0) = 1
            span(1, 2) = 1
            span(4, 1) = 1
            span(4, 2) = 0
            span(5, 0) ! index
            undo()
            removeSpan(3)
            span(2, 0) = 1
            span(2, 2) = 1
            span(3, 0) = 0
            span(3, 1) = 2
            span(3, 2) = 1
            span(4, 1) = 1
            """);
        edges.of(20, "Returns the number of pages then.", """
            type T1060r3+00r3+00r3+00s00010s00020s00011
            load()
            about(5) = 1
            # Still held together by another one; then by none.
            removeSpan(0) = 1
            removeSpan(0) = 3
            # With a name less, the rows 1 and 2 would need 7 lines as before it 8.
            removeSpan(0) = 3
            setHeight(0, 7) = 2
            addSpan(0, 1, true)
            about(5) = 2
            removeSpan(0) = 2
            """);
    }

    private static void setHeight(Edges edges) {
        edges.of(21, "what: 0: that of the page; 1: that of the heading; 2 to 7: that of the note what - 1", """
            setHeight(-1, 6) ! argument
            setHeight(-1, 1) ! argument
            setHeight(0, 7)
            about(3) = 7
            about(4) = 1
            setHeight(1, 2)
            about(4) = 2
            note(1) = 1
            setHeight(2, 3)
            note(1) = 3
            note(2) = 1
            setHeight(7, 2)
            note(6) = 2
            note(5) = 1
            setHeight(8, 1) ! argument
            setHeight(8, 6) ! argument
            about(3) = 7
            about(4) = 2
            """);
        edges.of(21, "height: 6 to 40 for the page, 0 to 4 for the heading, 1 to 3 for a note", """
            setHeight(0, 5) ! argument
            setHeight(0, 6) = 0
            setHeight(0, 40) = 0
            setHeight(0, 41) ! argument
            setHeight(1, -1) ! argument
            setHeight(1, 0) = 0
            setHeight(1, 4) = 0
            setHeight(1, 5) ! argument
            setHeight(2, 0) ! argument
            setHeight(2, 1) = 0
            setHeight(2, 3) = 0
            setHeight(2, 4) ! argument
            setHeight(7, 0) ! argument
            setHeight(7, 1) = 0
            setHeight(7, 3) = 0
            setHeight(7, 4) ! argument
            # What is in one's range is not in another's.
            setHeight(0, 4) ! argument
            setHeight(1, 6) ! argument
            setHeight(3, 6) ! argument
            """);
        edges.of(21, "Returns the number of pages then.", """
            setHeight(0, 6) = 0
            type T1200r6+00n1r6+00n1
            load()
            setHeight(0, 13) = 1
            setHeight(0, 12) = 2
            setHeight(0, 14) = 1
            setHeight(1, 1) = 1
            setHeight(1, 2) = 2
            setHeight(1, 0) = 1
            setHeight(2, 2) = 1
            setHeight(2, 3) = 2
            setHeight(0, 40) = 1
            setHeight(0, 6) = 2
            """);
    }

    private static void setHeightFails(Edges edges) {
        edges.of(21, "Throws IllegalArgumentException if what or height is out of range", """
            type T1100r3+00n1r3+00n6
            load()
            setHeight(-1, 6) ! argument
            setHeight(8, 3) ! argument
            setHeight(least, 6) ! argument
            setHeight(most, 6) ! argument
            setHeight(0, least) ! argument
            setHeight(0, most) ! argument
            setHeight(1, least) ! argument
            setHeight(1, most) ! argument
            setHeight(2, least) ! argument
            setHeight(7, most) ! argument
            setHeight(4, 0) ! argument
            setHeight(4, 4) ! argument
            # The heights that it has already.
            setHeight(0, 10) = 1
            """);
        edges.of(21, "IllegalArgumentException means that another argument is out of its range.", """
            # No height and no number of what there is is an index.
            addRow(1, 0)
            setHeight(-1, -1) ! argument
            addRow(-1, -1) ! argument
            setAmount(0, 0, 100) ! argument
            row(0, -1) ! argument
            note(-1) ! argument
            heightFor(-1) ! argument
            evenCut(-1) ! argument
            simulate(0, -1) ! argument
            """);
    }
}
