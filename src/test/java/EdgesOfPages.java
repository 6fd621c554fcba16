/** The sentences about the pages: promises 11 to 14, and "Pages" among the terms. */
final class EdgesOfPages {
    private EdgesOfPages() {
    }

    static void test(Edges edges) {
        lines(edges);
        linesOfSpansAndNotes(edges);
        overfull(edges);
        ends(edges);
        endsElsewhere(edges);
        page(edges);
        pageNumbers(edges);
        brought(edges);
        carried(edges);
        richest(edges);
    }

    private static void lines(Edges edges) {
        edges.of(11, "A page with the rows from a to b needs these lines: those of the heading;", """
            type T1200r3+00
            load()
            page(0, 2) = 3
            setHeight(1, 1)
            page(0, 2) = 4
            setHeight(1, 4)
            page(0, 2) = 7
            # Each page has the heading.
            setHeight(0, 11)
            2 * addRow(5, 0)
            page(1, 0) = 1
            page(1, 2) = 11
            page(2, 2) = 10
            """);
        edges.of(11, "1 for the sums brought forward, if a is not 0;", """
            type T1060r6+00r6+00r6+00
            load()
            # The first and the last page need a line for one of the sums, the one between them for both.
            page(0, 2) = 7
            page(1, 2) = 8
            page(2, 2) = 7
            page(1, 0) = 1
            """);
        edges.of(11, "1 for the sums carried forward, if b is not the last row.", """
            type T1060r5+00
            load()
            page(0, 2) = 5
            addRow(5, 0)
            page(0, 1) = 0
            page(0, 2) = 6
            page(1, 2) = 6
            removeRow(1)
            page(0, 2) = 5
            """);
        edges.of(11, "those of its rows;", """
            type T1400r1+00r2+00r3+00r4+00r5+00r6+00
            load()
            page(0, 2) = 21
            removeRow(5)
            page(0, 2) = 15
            removeRow(0)
            page(0, 2) = 14
            setHeight(0, 6)
            # The rows of 2 and 3 lines with a sum, that of 4 with both, and that of 5 with one: 6 lines each.
            page(0, 1) = 1
            page(0, 2) = 6
            page(1, 1) = 2
            page(1, 2) = 6
            page(2, 2) = 6
            """);
    }

    private static void linesOfSpansAndNotes(Edges edges) {
        edges.of(11, "1 for each span whose first row is before a and whose last row is a or behind it (its name is"
                + " repeated);", """
            type T1064r2+00r2+00r2+00r2+00
            load()
            # The page 2 has the row 2 alone: the heading, both sums, 2 lines.
            page(2, 2) = 8
            addSpan(0, 1, true)
            page(2, 2) = 8
            page(2, 4) = 0
            addSpan(2, 3, true)
            page(2, 2) = 8
            page(2, 4) = 0
            addSpan(1, 2, true)
            page(2, 2) = 9
            page(2, 4) = 1
            addSpan(1, 3, true)
            page(2, 4) = 2
            addSpan(0, 2, true)
            page(2, 4) = 3
            addSpan(0, 3, true)
            page(2, 2) = 12
            page(2, 4) = 4
            # No span begins before the first page.
            page(0, 4) = 0
            page(0, 2) = 7
            page(1, 4) = 3
            page(3, 4) = 3
            """);
        edges.of(11, "those of each note that some of its rows have (once each);", """
            type T1400r1+00r1+00r1+00r1+00h13h62
            load()
            page(0, 2) = 4
            new
            type T1400r1+00n1r1+00r1+00r1+00h13h62
            load()
            page(0, 2) = 7
            new
            type T1400r1+00n1r1+00r1+00n1r1+00h13h62
            load()
            page(0, 2) = 7
            new
            type T1400r1+00n1r1+00n6r1+00n1r1+00n6h13h62
            load()
            page(0, 2) = 9
            # On each page on which a row has it, and on no other.
            setHeight(0, 7)
            page(0, 1) = 0
            page(0, 2) = 5
            page(0, 5) = 1
            page(1, 1) = 1
            page(1, 2) = 5
            page(1, 5) = 32
            page(2, 1) = 2
            page(2, 2) = 6
            page(3, 2) = 4
            """);
    }

    private static void overfull(Edges edges) {
        edges.of(6, "A page that needs more lines than the height of the page is overfull.", """
            type T1070r6+00
            load()
            page(0, 3) = 1
            about(6) = 0
            setHeight(0, 6)
            page(0, 3) = 0
            about(6) = 0
            setHeight(1, 1)
            page(0, 3) = -1
            about(6) = 1
            # With 24 rows of the greatest height all pages are overfull.
            setHeight(1, 4)
            23 * addRow(6, 0)
            about(6) = 24
            setHeight(0, 11)
            # The first page and the last one have one sum alone, which makes 11 lines.
            about(6) = 22
            setHeight(0, 12)
            about(6) = 0
            """);
        edges.of(6, "A table without rows has no pages.", """
            about(5) = 0
            about(6) = 0
            page(0, 0) ! index
            addRow(1, 0)
            about(5) = 1
            page(0, 0) = 0
            removeRow(0)
            about(5) = 0
            page(0, 0) ! index
            brought(0, 0) ! index
            carried(0, 0) ! index
            new
            type T1200
            load() = 0
            about(5) = 0
            """);
    }

    private static void ends(Edges edges) {
        edges.of(11, "They are laid one after the other: each page ends behind the last row behind which the table can"
                + " be cut (or ends) so that the page is not overfull;", """
            type T1100r3+00r3+00r3+00r3+00r3+00r3+00
            load()
            # 3 rows and a sum are just a page; with both sums 2 rows.
            page(0, 1) = 2
            page(0, 3) = 0
            page(1, 0) = 3
            # The last page needs no line for a sum carried forward: 3 rows.
            page(1, 1) = 5
            page(1, 3) = 0
            about(5) = 2
            addRow(1, 0)
            page(1, 1) = 4
            page(2, 0) = 5
            page(2, 1) = 6
            # A line less, and a row less.
            setHeight(0, 9)
            page(0, 1) = 1
            page(1, 0) = 2
            new
            # Not the last row that fits, but the last one behind which it can be cut.
            type T1100r3+00r3+00kr3+00r3+00
            load()
            page(0, 1) = 2
            setHeight(0, 9)
            page(0, 1) = 0
            page(1, 1) = 2
            page(1, 3) = 1
            new
            # A span that may not be cut goes to the next page as a whole.
            type T1100r3+00r3+00r3+00r3+00s01030
            load()
            page(0, 1) = 0
            page(1, 1) = 3
            page(1, 3) = 0
            """);
        edges.of(11, "It ends behind its last row in any case.", """
            type T1060r3+00kr2+00k
            load()
            about(5) = 1
            page(0, 1) = 1
            page(0, 3) = 1
            keep(0, false) = 1
            setHeight(1, 2) = 2
            page(1, 1) = 1
            addRow(1, 0)
            # What was the last row stays with the next one now.
            page(1, 1) = 2
            """);
    }

    private static void endsElsewhere(Edges edges) {
        edges.of(11, "if there is none, behind the first row behind which it can be cut (or ends).", """
            type T1060r4+00kr4+00r1+00r1+00
            load()
            # Overfull in any case: it ends at once where it first can.
            page(0, 1) = 1
            page(0, 2) = 9
            page(1, 0) = 2
            page(1, 1) = 3
            new
            # Where nothing but the end of the table is left, there.
            type T1060r4+00kr4+00kr4+00kr1+00
            load()
            page(0, 1) = 3
            page(0, 3) = -7
            about(5) = 1
            new
            # A row that is too high for a page of its own.
            type T1064r6+00r6+00r1+00
            load()
            page(0, 1) = 0
            page(1, 1) = 1
            page(1, 3) = -6
            page(2, 1) = 2
            page(2, 3) = 0
            new
            # A row more would make it fit, for the last page has no sum carried forward; but 7 lines are not 6.
            type T1060r6+00r1+00
            load()
            page(0, 1) = 0
            page(0, 3) = -1
            new
            # 6 lines and 1 for the sum; with the last row there is no sum, which makes 7 lines.
            type T1070r6+00r1+00
            load()
            page(0, 1) = 1
            page(0, 3) = 0
            """);
    }

    private static void page(Edges edges) {
        edges.of(11, "Throws IndexOutOfBoundsException if there is no such page", """
            type T1060r6+00r6+00
            page(0, 0) ! index
            load()
            page(-1, 0) ! index
            page(0, 0) = 0
            page(1, 0) = 1
            page(2, 0) ! index
            page(least, 0) ! index
            page(most, 0) ! index
            setHeight(0, 13) = 1
            page(1, 0) ! index
            page(0, 1) = 1
            """);
        edges.of(11, "Throws IllegalArgumentException if what is not 0 to 5", """
            addRow(1, 6)
            page(0, -1) ! argument
            page(0, 0) = 0
            page(0, 5) = 32
            page(0, 6) ! argument
            page(0, least) ! argument
            page(0, most) ! argument
            """);
        edges.of(11, "The pages are numbered from 0.", """
            setHeight(0, 6)
            setHeight(1, 4)
            24 * addRow(6, 0)
            page(-1, 0) ! index
            page(0, 0) = 0
            page(23, 0) = 23
            page(24, 0) ! index
            row(0, 4) = 0
            row(23, 4) = 23
            """);
    }

    private static void pageNumbers(Edges edges) {
        edges.of(11, "what: 0: its first row;", """
            type T1060r6+00r6+00r1+00r1+00
            load()
            still page(0, 0) = 0
            page(1, 0) = 1
            still page(2, 0) = 2
            page(3, 0) ! index
            """);
        edges.of(11, "1: its last row;", """
            type T1060r6+00r6+00r1+00r1+00
            load()
            still page(0, 1) = 0
            page(1, 1) = 1
            still page(2, 1) = 3
            """);
        edges.of(11, "2: the lines that it needs;", """
            addRow(1, 0)
            setHeight(1, 0)
            still page(0, 2) = 1
            new
            # As many as there can be: 24 rows of 6 lines, the heading, notes of 3 lines.
            type T1064h13h23h33h43h53h63
            load()
            addRow(6, 1)
            addRow(6, 2)
            addRow(6, 3)
            addRow(6, 4)
            addRow(6, 5)
            18 * addRow(6, 6)
            addRow(6, 0)
            addSpan(0, 23, false)
            still page(0, 2) = 166
            page(0, 3) = -160
            """);
        edges.of(11, "3: the lines that are left empty (below 0 if it is overfull);", """
            type T1400r1+00
            load()
            still page(0, 3) = 39
            setHeight(1, 4)
            addRow(2, 0)
            setHeight(0, 7)
            still page(0, 3) = 0
            setHeight(0, 6)
            still page(0, 3) = 0
            page(1, 3) = -1
            """);
        edges.of(11, "4: the names of spans that are repeated on it;", """
            type T1060r6+00r6+00s00011s00011s00011s00011s00011s00011
            load()
            still page(0, 4) = 0
            still page(1, 4) = 6
            page(1, 2) = 13
            removeSpan(0)
            page(1, 4) = 5
            setHeight(0, 12)
            page(0, 1) = 1
            page(0, 4) = 0
            """);
        edges.of(11, "5: its notes, bit n - 1 set for the note n", """
            addRow(1, 0)
            still page(0, 5) = 0
            addRow(1, 1)
            page(0, 5) = 1
            addRow(1, 6)
            page(0, 5) = 33
            addRow(1, 6)
            page(0, 5) = 33
            addRow(1, 2)
            addRow(1, 3)
            addRow(1, 4)
            page(0, 5) = 47
            addRow(1, 5)
            still page(0, 5) = 63
            """);
    }

    private static void brought(Edges edges) {
        edges.of(12, "Throws IndexOutOfBoundsException if there is no such page or column", """
            brought(0, 0) ! index
            type T2060r6+01+02r6+03+04
            load()
            brought(-1, 0) ! index
            brought(0, 0) = 0
            brought(1, 1) = 2
            brought(2, 0) ! index
            brought(2, 1) ! index
            brought(0, -1) ! index
            brought(0, 2) ! index
            brought(1, 2) ! index
            brought(least, 0) ! index
            brought(most, 0) ! index
            brought(0, least) ! index
            brought(0, most) ! index
            """);
        edges.of(12, "Returns the sum of the amounts of all rows before the first one of this page.", """
            type T1060r6+99r6-01r6+50r6-99
            load()
            still brought(0, 0) = 0
            still brought(1, 0) = 99
            still brought(2, 0) = 98
            brought(3, 0) = 148
            new
            setHeight(0, 6)
            setHeight(1, 4)
            24 * addRow(6, 0)
            setAmount(0, 0, -99)
            setAmount(22, 0, -99)
            setAmount(23, 0, -99)
            brought(23, 0) = -198
            brought(22, 0) = -99
            brought(1, 0) = -99
            """);
        edges.of(12, "that of all rows before its first one.", """
            # Without any row before it: 0. All rows but the last one: it is left out.
            type T4060r6+01+02+03-99r6+10+20+30-99
            load()
            brought(0, 0) = 0
            brought(0, 3) = 0
            brought(1, 0) = 1
            brought(1, 3) = -99
            setHeight(0, 40)
            brought(0, 3) = 0
            """);
    }

    private static void carried(Edges edges) {
        edges.of(13, "Throws IndexOutOfBoundsException if there is no such page or column", """
            carried(0, 0) ! index
            type T2060r6+01+02r6+03+04
            load()
            carried(-1, 0) ! index
            carried(0, 0) = 1
            carried(1, 1) = 6
            carried(2, 0) ! index
            carried(2, 1) ! index
            carried(0, -1) ! index
            carried(0, 2) ! index
            carried(1, 2) ! index
            carried(least, 0) ! index
            carried(most, 0) ! index
            carried(0, least) ! index
            carried(0, most) ! index
            """);
        edges.of(13, "Returns the sum of the amounts of all rows up to the last one of this page.", """
            type T1060r6+99r6-01r1+50r2-99
            load()
            still carried(0, 0) = 99
            still carried(1, 0) = 98
            still carried(2, 0) = 49
            carried(3, 0) ! index
            """);
        edges.of(13, "The sum carried forward of a page in a column is the sum of the amounts of all rows up to its"
                + " last one;", """
            # The greatest sum and the least one.
            type T4400r1+99-99+00+01
            load()
            23 * addRow(1, 0)
            setAmount(23, 0, 99)
            setAmount(23, 1, -99)
            page(0, 1) = 23
            carried(0, 0) = 198
            carried(0, 1) = -198
            carried(0, 2) = 0
            carried(0, 3) = 1
            new
            type T1400{24 r1+99}
            load() = 24
            carried(0, 0) = 2376
            new
            type T1400{24 r1-99}
            load() = 24
            carried(0, 0) = -2376
            """);
    }

    private static void richest(Edges edges) {
        edges.of(14, "Throws IndexOutOfBoundsException if there is no such column", """
            richest(-1) ! index
            richest(0) = NONE
            richest(1) ! index
            type T4060r6+00+00+00+00
            load()
            richest(-1) ! index
            richest(0) = 0
            richest(3) = 0
            richest(4) ! index
            richest(least) ! index
            richest(most) ! index
            """);
        edges.of(14, "NONE without pages.", """
            still richest(0) = NONE
            addRow(1, 0)
            setAmount(0, 0, -99)
            still richest(0) = 0
            removeRow(0)
            richest(0) = NONE
            """);
        edges.of(14, "Returns the page on which the amounts of its rows in this column have the greatest sum, among"
                + " several the first;", """
            type T2060r6+05-50r6+06-51r6+06-49r6+05-49
            load()
            still richest(0) = 1
            still richest(1) = 2
            setAmount(0, 0, 6)
            richest(0) = 0
            setAmount(0, 0, 5)
            setAmount(2, 0, 7)
            richest(0) = 2
            setAmount(3, 0, 8)
            richest(0) = 3
            setAmount(3, 1, -48)
            richest(1) = 3
            setAmount(3, 1, -49)
            richest(1) = 2
            """);
        edges.of(14, "Finds the page with the greatest sum of its own rows.", """
            # Its own rows: what is carried forward to it does not count.
            type T1060r6+50r6+01r2-30r2+40
            load()
            richest(0) = 0
            setAmount(0, 0, 9)
            # 9, 1, and 10 of two rows.
            richest(0) = 2
            setAmount(3, 0, 39)
            richest(0) = 0
            """);
    }
}
