/** The sentences about what would be: promises 23 to 26. */
final class EdgesOfWouldBe {
    private EdgesOfWouldBe() {
    }

    static void test(Edges edges) {
        heightFor(edges);
        heightForMany(edges);
        evenest(edges);
        evenestOverfull(edges);
        evenCut(edges);
        evenCutOfSeveral(edges);
        emptyFrom(edges);
        emptyFromEnds(edges);
    }

    private static void heightFor(Edges edges) {
        edges.of(23, "n: 1 to 24", """
            heightFor(0) ! argument
            heightFor(1) = 6
            heightFor(24) = 6
            heightFor(25) ! argument
            """);
        edges.of(23, "Throws IllegalArgumentException if n is out of range", """
            2 * addRow(6, 0)
            heightFor(0) ! argument
            heightFor(25) ! argument
            heightFor(-1) ! argument
            heightFor(least) ! argument
            heightFor(most) ! argument
            heightFor(1) = 13
            """);
        edges.of(23, "Returns the smallest height of the page from 6 to 40 with which there would be at most n"
                + " pages,", """
            # 5, 6 and 7 lines: not below 6.
            type T1200r5+00
            load()
            heightFor(1) = 6
            setHeight(1, 1)
            heightFor(1) = 6
            setHeight(1, 2)
            heightFor(1) = 7
            # 39, 40 and 41 lines: not above 40.
            setHeight(1, 0)
            5 * addRow(6, 0)
            addRow(4, 0)
            heightFor(1) = 39
            setHeight(1, 1)
            heightFor(1) = 40
            setHeight(1, 2)
            heightFor(1) = NONE
            # The height that the page has does not matter.
            setHeight(1, 1)
            setHeight(0, 6)
            heightFor(1) = 40
            about(3) = 6
            setHeight(0, 40)
            heightFor(1) = 40
            heightFor(24) = 9
            """);
    }

    private static void heightForMany(Edges edges) {
        edges.of(23, "none of them overfull;", """
            # Two pages, and with 6 lines both overfull.
            type T1060r6+00r6+00
            load()
            about(5) = 2
            heightFor(2) = 7
            heightFor(24) = 7
            heightFor(1) = 12
            setHeight(0, 7)
            about(6) = 0
            heightFor(2) = 7
            # 1 line less, and both are full.
            removeRow(0)
            addRow(5, 0)
            removeRow(0)
            addRow(5, 0)
            heightFor(2) = 6
            """);
        edges.of(23, "NONE if there is none.", """
            # Pages of 6, 6, 6 and 6 rows need 38 lines; with 37 lines 5 rows are on the second page.
            setHeight(1, 0)
            24 * addRow(6, 0)
            heightFor(3) = NONE
            heightFor(4) = 38
            heightFor(5) = 32
            heightFor(23) = 13
            heightFor(24) = 8
            new
            # 40 lines that can't be cut, and 41.
            type T1404r6+00kr6+00kr6+00kr6+00kr6+00kr6+00k
            load()
            heightFor(24) = 40
            addRow(1, 0)
            heightFor(24) = NONE
            heightFor(1) = NONE
            keep(5, false)
            heightFor(24) = NONE
            setHeight(1, 3)
            heightFor(24) = 40
            """);
        edges.of(23, "Finds the height with which so many pages suffice.", """
            # 10 lines: 4 pages of a row; 3 rows and 1, 11 to 13 lines as well as what is between.
            type T1060r3+00r3+00r3+00r3+00
            load()
            heightFor(1) = 12
            heightFor(2) = 7
            heightFor(3) = 7
            heightFor(4) = 6
            """);
    }

    private static void evenest(Edges edges) {
        edges.of(24, "0 without rows.", """
            still evenest() = 0
            setHeight(0, 6)
            evenest() = 0
            addRow(6, 0)
            still evenest() = 1000
            removeRow(0)
            evenest() = 0
            # And behind the last one of fewer rows than there were.
            setHeight(1, 0)
            3 * addRow(6, 0)
            evenest() = 4000
            removeRow(2)
            evenest() = 2000
            removeRow(1)
            evenest() = 0
            """);
        edges.of(24, "each page that is not overfull costs the square of its empty lines,", """
            type T1060r5+00r6+00
            load()
            # 1 to 4 empty lines on the first page; the last page costs 0.
            setHeight(0, 7)
            evenest() = 1
            setHeight(0, 8)
            evenest() = 4
            setHeight(0, 9)
            evenest() = 9
            setHeight(0, 10)
            evenest() = 16
            # On one page at last.
            setHeight(0, 11)
            evenest() = 0
            new
            # None, though both rows together would need 4 lines too many.
            type T1060r5+00r5+00
            load()
            evenest() = 0
            evenCut(0) = 0
            new
            # 36 of 40 lines.
            type T1400r3+00r6+00kr6+00kr6+00kr6+00kr6+00kr6+00kr3+00
            load()
            evenest() = 1296
            evenCut(0) = 0
            evenCut(1) = 7
            """);
        edges.of(24, "but the last page then costs 0;", """
            type T1400r1+00
            load()
            # 39 empty lines on the only page, which is the last one.
            evenest() = 0
            new
            # 3 empty lines on the first page of two, and on the last one.
            type T1070r3+00r6+00
            load()
            evenest() = 9
            new
            type T1070r6+00r3+00
            load()
            evenest() = 0
            addRow(6, 0)
            # Now it is the last one no more: both sums, 2 empty lines.
            setHeight(0, 8)
            evenest() = 10
            """);
        edges.of(24, "Returns the smallest cost of all pages together;", """
            # The rows 0 | 1 cost 16 + 0, 0 and 1 | 2 cost 1 + 0, and each on its own 16 + 16.
            type T1100r4+00r4+00r4+00
            load()
            evenest() = 1
            evenCut(0) = 1
            addRow(4, 0)
            # 0 1 | 2 3 cost 1 + 0.
            evenest() = 1
            addRow(6, 0)
            # 0 1 | 2 3 | 4 cost 1 + 0 + 0.
            evenest() = 1
            setAmount(0, 0, 99)
            setHeight(1, 1)
            # 0 1 | 2 | 3 | 4 cost 0 + 9 + 9 + 0, 0 | 1 | 2 | 3 | 4 cost 16 + 9 + 9 + 9 + 0.
            evenest() = 18
            evenCut(0) = 1
            """);
    }

    private static void evenestOverfull(Edges edges) {
        edges.of(24, "an overfull page (the last one, too) costs 1000 * (the lines that it needs more than there are)"
                + " alone.", """
            type T1060r6+00
            load()
            # Just full, and the last one.
            evenest() = 0
            setHeight(1, 1)
            evenest() = 1000
            setHeight(1, 2)
            evenest() = 2000
            setHeight(1, 0)
            addRow(5, 0)
            # The first one needs 7 lines; the last one 6, and it costs 0.
            evenest() = 1000
            setHeight(1, 1)
            evenest() = 3000
            new
            # The most that there is: all 24 rows together.
            type T1064h13h23h33h43h53h63
            load()
            addRow(6, 1)
            addRow(6, 2)
            addRow(6, 3)
            addRow(6, 4)
            addRow(6, 5)
            18 * addRow(6, 6)
            addRow(6, 0)
            addSpan(0, 23, false)
            evenest() = 160000
            """);
        edges.of(24, "The table may be cut in any way that is possible;", """
            type T1100r4+00r4+00kr4+00
            load()
            # Not behind the row 1, where it would cost 1.
            evenest() = 25
            keep(1, false)
            evenest() = 1
            addSpan(1, 2, false)
            evenest() = 25
            addSpan(0, 1, false)
            evenest() = 2000
            evenCut(0) = 2
            new
            # Also so that a page is overfull, if that is cheaper: 2 lines would be alone on a page of 40, 37 empty.
            type T1400r2+00r6+00kr6+00kr6+00kr6+00kr6+00kr6+00kr3+00
            load()
            evenest() = 1000
            evenCut(0) = 7
            about(5) = 2
            new
            # With 3 lines, 36 * 36 is less than 2000.
            type T1400r3+00r6+00kr6+00kr6+00kr6+00kr6+00kr6+00kr3+00
            load()
            evenest() = 1296
            evenCut(0) = 0
            """);
    }

    private static void evenCut(Edges edges) {
        edges.of(25, "Throws IllegalArgumentException if i is negative", """
            evenCut(-1) ! argument
            evenCut(0) = NONE
            addRow(1, 0)
            evenCut(-1) ! argument
            evenCut(least) ! argument
            evenCut(0) = 0
            """);
        edges.of(25, "NONE if there are not so many pages.", """
            evenCut(0) = NONE
            evenCut(most) = NONE
            addRow(1, 0)
            evenCut(0) = 0
            evenCut(1) = NONE
            setHeight(0, 8)
            setHeight(1, 0)
            removeRow(0)
            24 * addRow(6, 0)
            still evenCut(22) = 22
            evenCut(23) = 23
            evenCut(24) = NONE
            evenCut(25) = NONE
            evenCut(most) = NONE
            # Nothing is left of the longer table.
            setHeight(0, 40)
            removeRow(23)
            evenCut(3) = 22
            evenCut(4) = NONE
            """);
        edges.of(25, "i: which page, from 0", """
            type T1060r5+00r4+00r5+00
            load()
            still evenCut(0) = 0
            still evenCut(1) = 1
            evenCut(2) = 2
            evenCut(3) = NONE
            """);
    }

    private static void evenCutOfSeveral(Edges edges) {
        edges.of(25, "Returns the last row of this page in the way to cut with the smallest cost,", """
            # As the pages are laid, 0 1 2 | 3 4 cost 0 + 1 ...
            type T1120r5+00r4+00r1+00r5+00r6+00r6+00
            load()
            page(0, 1) = 2
            page(1, 1) = 3
            # ... but 0 1 | 2 3 | 4 | 5 cost 4 + 16 + 16, which is less than 1 + 25 + 16.
            evenest() = 36
            evenCut(0) = 1
            evenCut(1) = 3
            evenCut(2) = 4
            evenCut(3) = 5
            evenCut(4) = NONE
            """);
        edges.of(25, "among several the one whose first page ends first, then the second one, and so on;", """
            # 0 | 1 2 | 3 and 0 1 | 2 | 3 both cost 17.
            type T1100r5+00r3+00r4+00r6+00
            load()
            evenest() = 17
            evenCut(0) = 0
            evenCut(1) = 2
            evenCut(2) = 3
            new
            # A line more in the row 2, and the second way costs less; a line less, and the first one does.
            type T1100r5+00r3+00r5+00r6+00
            load()
            evenest() = 10
            evenCut(0) = 1
            new
            type T1100r5+00r2+00r4+00r6+00
            load()
            evenest() = 20
            evenCut(0) = 0
            new
            # 0 | 1 | 2 3 | 4 and 0 | 1 2 | 3 | 4 both cost 26: the second page.
            type T1100r6+00r4+00r3+00r4+00r6+00
            load()
            evenest() = 26
            evenCut(0) = 0
            evenCut(1) = 1
            evenCut(2) = 3
            evenCut(3) = 4
            new
            # Two ways that cost nothing: with one page and with two.
            type T1060r5+00r1+00
            load()
            evenest() = 0
            evenCut(0) = 0
            evenCut(1) = 1
            evenCut(2) = NONE
            """);
    }

    private static void emptyFrom(Edges edges) {
        edges.of(26, "Throws IndexOutOfBoundsException if there is no such row", """
            emptyFrom(0) ! index
            2 * addRow(1, 0)
            emptyFrom(-1) ! index
            emptyFrom(0) = 17
            emptyFrom(1) = 17
            emptyFrom(2) ! index
            emptyFrom(least) ! index
            emptyFrom(most) ! index
            """);
        edges.of(26, "NONE if there is no such row.", """
            # 5, 6 and 7 lines on a page of 6.
            type T1060r5+00
            load()
            emptyFrom(0) = 1
            setHeight(1, 1)
            emptyFrom(0) = 0
            setHeight(1, 2)
            emptyFrom(0) = NONE
            setHeight(1, 0)
            addRow(5, 0)
            # With a sum each of them is just full; with a third row the one between needs both sums.
            emptyFrom(0) = 0
            emptyFrom(1) = 0
            addRow(5, 0)
            emptyFrom(1) = NONE
            emptyFrom(2) = 0
            # A row that fits but can't end the page is none.
            removeRow(2)
            keep(0, true)
            emptyFrom(0) = NONE
            setHeight(0, 9)
            emptyFrom(0) = NONE
            setHeight(0, 10)
            emptyFrom(0) = 0
            """);
    }

    private static void emptyFromEnds(Edges edges) {
        edges.of(26, "Returns the lines that a page which begins with the row r and ends behind the last row that"
                + " could end it without being overfull leaves empty;", """
            type T1100r3+00r3+00r3+00r3+00r3+00
            load()
            # Three rows and a sum; two rows and both sums; three rows and a sum; two rows and a sum.
            still emptyFrom(0) = 0
            still emptyFrom(1) = 2
            emptyFrom(2) = 0
            emptyFrom(3) = 3
            emptyFrom(4) = 6
            keep(2, true)
            emptyFrom(0) = 3
            emptyFrom(1) = 5
            # A row before which the table can't be cut can begin the page, too.
            emptyFrom(3) = 3
            # With the names of the spans that begin before it and end there or later, and with its notes.
            addSpan(0, 4, true)
            addSpan(3, 4, false)
            addSpan(2, 3, true)
            emptyFrom(0) = 3
            emptyFrom(3) = 1
            emptyFrom(4) = 4
            setHeight(7, 3)
            addRow(1, 6)
            emptyFrom(5) = 5
            emptyFrom(4) = 0
            """);
        edges.of(26, "ends behind the last row that could end it without being overfull", """
            24 * addRow(6, 0)
            setHeight(0, 40)
            setHeight(1, 0)
            emptyFrom(0) = 3
            emptyFrom(17) = 2
            # The last row needs no line for a sum behind it.
            emptyFrom(18) = 3
            emptyFrom(23) = 33
            """);
    }
}
