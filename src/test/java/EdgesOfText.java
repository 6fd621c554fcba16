/** The sentences about the text: promises 2 to 5, and "Text" among the terms. */
final class EdgesOfText {
    private EdgesOfText() {
    }

    static void test(Edges edges) {
        append(edges);
        clearText(edges);
        errorPosition(edges);
        head(edges);
        rows(edges);
        marks(edges);
        notes(edges);
        spans(edges);
        spanRows(edges);
        errors(edges);
        load(edges);
        loadForgets(edges);
    }

    private static void append(Edges edges) {
        edges.of(2, "c: character code, 0 to 255", """
            append(-1) ! argument
            append(0) = 1
            append(255) = 2
            append(256) ! argument
            clearText() = 2
            """);
        edges.of(2, "Throws IllegalArgumentException if c is out of range", """
            type T1200
            append(-1) ! argument
            append(256) ! argument
            append(least) ! argument
            append(most) ! argument
            # 256 + 107 must not be taken for k, nor 65536 + 107.
            append(363) ! argument
            append(65643) ! argument
            load() = 0
            """);
        edges.of(2, "Throws IllegalStateException if the text already has 160 characters", """
            158 * append(107)
            append(107) = 159
            append(107) = 160
            append(107) ! state
            append(0) ! state
            append(255) ! state
            clearText() = 160
            append(107) = 1
            """);
        edges.of(2, "Returns the new length of the text.", """
            append(84) = 1
            append(84) = 2
            157 * append(0)
            append(32) = 160
            append(84) ! state
            clearText() = 160
            append(84) = 1
            """);
        edges.of(2, "The object has a text buffer of at most 160 characters.", """
            type T1200{24 r1+00}{35 k}
            append(107) ! state
            append(120) ! state
            errorPosition() = NONE
            load() = 24
            row(23, 2) = 1
            clearText() = 160
            """);
    }

    private static void clearText(Edges edges) {
        edges.of(3, "Returns the previous length of the text.", """
            clearText() = 0
            clearText() = 0
            append(84)
            clearText() = 1
            clearText() = 0
            160 * append(84)
            clearText() = 160
            clearText() = 0
            """);
        edges.of(3, "Empties the text buffer.", """
            type T1200
            errorPosition() = NONE
            clearText() = 5
            errorPosition() = 0
            load() ! state
            # Nothing of the old text comes back behind a shorter new one.
            type T12
            errorPosition() = 3
            load() ! state
            type 00
            load() = 0
            """);
    }

    private static void errorPosition(Edges edges) {
        edges.of(4, "NONE if it is a table.", """
            text T120 = 4
            text T1200 = NONE
            text T1200r = 6
            text T1200r1+00 = NONE
            text T1200r1+00x = 10
            """);
        edges.of(4, "Returns the error position of the text;", """
            # From the first character to the last one.
            still errorPosition() = 0
            append(120)
            still errorPosition() = 0
            159 * append(120)
            errorPosition() = 0
            new
            type T1200h
            153 * append(49)
            errorPosition() = 8
            new
            type T1200{24 r1+00}{34 k}
            errorPosition() = NONE
            append(120) = 160
            still errorPosition() = 159
            load() ! state
            """);
        edges.of(4, "if the text ends too soon, it is the length of the text.", """
            text = 0
            text T = 1
            text T1 = 2
            text T12 = 3
            text T120 = 4
            text T1200r = 6
            text T1200r1 = 7
            text T1200r1+ = 8
            text T1200r1+0 = 9
            text T1200r1+00n = 11
            text T1200h = 6
            text T1200h1 = 7
            text T2200r1+00 = 10
            text T1200r1+00r1+00s = 16
            text T1200r1+00r1+00s0 = 17
            text T1200r1+00r1+00s00 = 18
            text T1200r1+00r1+00s000 = 19
            text T1200r1+00r1+00s0001 = 20
            text T1200r1+00r1+00s00011 = NONE
            text T1200{24 r1+00}{30 k}h11h1 = 160
            append(49) ! state
            """);
    }

    private static void head(Edges edges) {
        edges.of(4, "A table is the letter T,", """
            text t1200 = 0
            text S1200 = 0
            text U1200 = 0
            text 1200 = 0
            text T1200 = NONE
            """);
        edges.of(4, "a digit from 1 to 4 for the columns,", """
            text T/ = 1
            text T0200 = 1
            text T1200 = NONE
            text T4200 = NONE
            text T5200 = 1
            text T9200 = 1
            text T: = 1
            """);
        edges.of(4, "two digits from 06 to 40 for the height of the page,", """
            text T1/ = 2
            text T100 = 3
            text T1050 = 3
            text T1060 = NONE
            text T1090 = NONE
            text T10: = 3
            text T1100 = NONE
            text T1390 = NONE
            text T13: = 3
            text T13/ = 3
            text T1400 = NONE
            text T1410 = 3
            text T1490 = 3
            text T1500 = 2
            text T1600 = 2
            text T1 60 = 2
            """);
        edges.of(4, "a digit from 0 to 4 for the heading,", """
            text T120/ = 4
            text T1200 = NONE
            text T1204 = NONE
            text T1205 = 4
            text T1209 = 4
            """);
        edges.of(5, "a digit from 0 to 4 for the heading,", """
            # What the head says is in the table.
            text T1060 = NONE
            about(0) = 1
            about(3) = 6
            about(4) = 0
            text T4404 = NONE
            about(0) = 4
            about(3) = 40
            about(4) = 4
            """);
        edges.of(4, "and then any number of parts, in any order:", """
            text T1200 = NONE
            text T1200h11 = NONE
            text T1200h11r1+00 = NONE
            text T1200r1+00h11kn1r1+00n2ks00010h62r1+00s00021 = NONE
            load() = 3
            text T1200{51 h13} = NONE
            text T1200r1+00{150 k} = NONE
            """);
    }

    private static void rows(Edges edges) {
        edges.of(4, "the letter r, a digit from 1 to 6 for the height of the next row,", """
            text T1200r/ = 6
            text T1200r+00 = 6
            text T1200r0+00 = 6
            text T1200r1+00 = NONE
            row(0, 0) = 1
            text T1200r6+00 = NONE
            row(0, 0) = 6
            text T1200r7+00 = 6
            text T1200r9+00 = 6
            text T1200R1+00 = 5
            text T1200q1+00 = 5
            """);
        edges.of(4, "for each column a + or a - and two digits for its amount", """
            text T1200r1*00 = 7
            text T1200r1,00 = 7
            text T1200r100 = 7
            text T1200r1+/ = 8
            text T1200r1+0/ = 9
            text T1200r1+9: = 9
            text T1200r1+: = 8
            text T1200r1+00 = NONE
            amount(0, 0) = 0
            text T1200r1-00 = NONE
            amount(0, 0) = 0
            text T1200r1+99 = NONE
            amount(0, 0) = 99
            text T1200r1-99 = NONE
            amount(0, 0) = -99
            text T1200r1-100 = 10
            # One more and one less than there are columns.
            text T1200r1+01+02 = 10
            text T2200r1+01 = 10
            text T2200r1+01-02 = NONE
            amount(0, 1) = -2
            text T2200r1+01r = 10
            text T3200r1+01-02 = 13
            text T4200r1+01-02+03-04 = NONE
            amount(0, 3) = -4
            text T4200r1+01-02+03 = 16
            text T4200r1+01-02+03-04+05 = 19
            """);
        edges.of(4, "(at most 24 of these);", """
            text T1200{23 r1+00} = NONE
            about(1) = 23
            text T1200{24 r1+00} = NONE
            about(1) = 24
            text T1200{24 r1+00}r = 125
            text T1200{24 r1+00}r1+00 = 125
            text T1200{24 r1+00}kr1+00 = 126
            text T1200{24 r1+00}kn6h11s22231 = NONE
            """);
    }

    private static void marks(Edges edges) {
        edges.of(4, "A k or n may stand wherever a row was told ahead,", """
            text T1200k = 5
            text T1200n1 = 5
            text T1200h11k = 8
            text T1200h11n1 = 8
            text T1200r1+00k = NONE
            text T1200r1+00n1 = NONE
            # Not before the row is told whole.
            text T1200r1k = 7
            text T1200r1+0k = 9
            text T2200r1+00k = 10
            text T1200r1+00h11kh11n1 = NONE
            text T1200r1+00r1+00s00011kn1 = NONE
            row(0, 2) = 0
            row(1, 2) = 1
            row(1, 1) = 1
            """);
        edges.of(5, "the letter k: the last row told stays with the next one;", """
            text T1200r1+00kr1+00r1+00 = NONE
            row(0, 2) = 1
            row(1, 2) = 0
            row(2, 2) = 0
            text T1200r1+00r1+00r1+00kk = NONE
            row(1, 2) = 0
            row(2, 2) = 1
            """);
        edges.of(5, "the letter n and a digit from 1 to 6: the note of the last row told;", """
            text T1200r1+00n1r1+00r1+00n6 = NONE
            row(0, 1) = 1
            row(1, 1) = 0
            row(2, 1) = 6
            """);
    }

    private static void notes(Edges edges) {
        edges.of(4, "the letter n and a digit from 1 to 6:", """
            text T1200r1+00n/ = 11
            text T1200r1+00n0 = 11
            text T1200r1+00n1 = NONE
            text T1200r1+00n6 = NONE
            text T1200r1+00n7 = 11
            text T1200r1+00n9 = 11
            text T1200r1+00N1 = 10
            text T1200r1+00n11 = 12
            """);
        edges.of(4, "the letter h, a digit from 1 to 6 for a note and one from 1 to 3 for its height;", """
            text T1200h01 = 6
            text T1200h11 = NONE
            text T1200h61 = NONE
            text T1200h71 = 6
            text T1200h/1 = 6
            text T1200h10 = 7
            text T1200h13 = NONE
            note(1) = 3
            text T1200h14 = 7
            text T1200h60 = 7
            text T1200h63 = NONE
            note(6) = 3
            note(5) = 1
            text T1200h64 = 7
            text T1200h111 = 8
            """);
        edges.of(5, "a later n or h replaces an earlier one.", """
            text T1200r1+00n6n1 = NONE
            row(0, 1) = 1
            text T1200r1+00n1kn6n6h11n2 = NONE
            row(0, 1) = 2
            row(0, 2) = 1
            # That of another row does not.
            text T1200r1+00n6r1+00n1 = NONE
            row(0, 1) = 6
            row(1, 1) = 1
            text T1200h13h11 = NONE
            note(1) = 1
            text T1200h13h12h62h63h13 = NONE
            note(1) = 3
            note(6) = 3
            note(2) = 1
            """);
    }

    private static void spans(Edges edges) {
        edges.of(4, "an s wherever two rows were told ahead;", """
            text T1200s00010 = 5
            text T1200h11s00010 = 8
            text T1200r1+00s00010 = 10
            text T1200r1+00ks00010 = 11
            text T1200r1+00r1+0s = 14
            text T1200r1+00r1+00s00010 = NONE
            text T1200r1+00r1+00kn1h11s00010r1+00 = NONE
            span(0, 1) = 1
            """);
        edges.of(5, "the letter s, two digits for the first row of a span, two for its last row,", """
            text T1200{3 r1+00}S00011 = 20
            text T1200{3 r1+00}t00011 = 20
            text T1200{3 r1+00}s/0011 = 21
            text T1200{3 r1+00}s0/011 = 22
            text T1200{3 r1+00}s00/11 = 23
            text T1200{3 r1+00}s000/1 = 24
            text T1200{3 r1+00}s000:1 = 24
            text T1200{3 r1+00}s01021s00021 = NONE
            span(0, 0) = 1
            span(0, 1) = 2
            span(1, 0) = 0
            span(1, 1) = 2
            """);
        edges.of(4, "and a 0 (it may not be cut) or a 1 (it may be cut):", """
            text T1200r1+00r1+00s0001/ = 20
            text T1200r1+00r1+00s00010 = NONE
            span(0, 2) = 0
            text T1200r1+00r1+00s00011 = NONE
            span(0, 2) = 1
            text T1200r1+00r1+00s00012 = 20
            text T1200r1+00r1+00s0001k = 20
            text T1200r1+00r1+00s000111 = 21
            """);
        edges.of(4, "at most 6 of these.", """
            text T1200r1+00r1+00{5 s00011} = NONE
            about(2) = 5
            text T1200r1+00r1+00{5 s00011}s00010 = NONE
            about(2) = 6
            span(4, 2) = 1
            span(5, 2) = 0
            text T1200r1+00r1+00{5 s00011}s00010s = 51
            text T1200r1+00r1+00{6 s00011}s00010 = 51
            text T1200r1+00r1+00{6 s00011}r1+00s = 56
            text T1200r1+00r1+00{6 s00011}kn1h11r1+00 = NONE
            """);
        edges.of(5, "numbered from 0 in the order in which they were added.", """
            text T1200r1+00r1+00r1+00s01021s00020s00011 = NONE
            span(0, 0) = 1
            span(0, 1) = 2
            span(1, 0) = 0
            span(1, 2) = 0
            span(2, 1) = 1
            span(3, 0) ! index
            """);
    }

    private static void spanRows(Edges edges) {
        edges.of(4, "both rows are told ahead, the last one behind the first one;", """
            # With two rows 00 alone can be the first one, 01 alone the last one.
            text T1200{2 r1+00}s00011 = NONE
            text T1200{2 r1+00}s00001 = 19
            text T1200{2 r1+00}s00021 = 19
            text T1200{2 r1+00}s01011 = 17
            text T1200{2 r1+00}s01001 = 17
            text T1200{2 r1+00}s02 = 17
            text T1200{2 r1+00}s1 = 16
            text T1200{2 r1+00}s001 = 18
            # Rows that are told behind the span do not count.
            text T1200{2 r1+00}s00021r1+00 = 19
            text T1200{3 r1+00}s00021 = NONE
            text T1200{3 r1+00}s01021 = NONE
            text T1200{3 r1+00}s00031 = 24
            text T1200{3 r1+00}s01001 = 24
            text T1200{3 r1+00}s01011 = 24
            text T1200{3 r1+00}s02021 = 22
            # The greatest numbers of a full table.
            text T1200{24 r1+00}s00011 = NONE
            text T1200{24 r1+00}s00231 = NONE
            text T1200{24 r1+00}s22231 = NONE
            text T1200{24 r1+00}s22221 = 129
            text T1200{24 r1+00}s22241 = 129
            text T1200{24 r1+00}s2221 = 129
            text T1200{24 r1+00}s2213 = 128
            text T1200{24 r1+00}s2233 = 128
            text T1200{24 r1+00}s23231 = 127
            """);
        edges.of(4, "(a digit is not allowed if no number that is allowed begins with it and those before it);", """
            text T1200{12 r1+00}s08091 = NONE
            text T1200{12 r1+00}s08081 = 69
            text T1200{12 r1+00}s09101 = NONE
            text T1200{12 r1+00}s09111 = NONE
            text T1200{12 r1+00}s09121 = 69
            # Behind 09 no number that begins with a 0 can be the last one's.
            text T1200{12 r1+00}s09 = 68
            text T1200{12 r1+00}s09091 = 68
            text T1200{12 r1+00}s10111 = NONE
            text T1200{12 r1+00}s10101 = 69
            text T1200{12 r1+00}s10091 = 68
            text T1200{12 r1+00}s11111 = 67
            text T1200{12 r1+00}s2 = 66
            # With ten rows and with eleven: numbers that begin with a 1.
            text T1200{10 r1+00}s08091 = NONE
            text T1200{10 r1+00}s09091 = 57
            text T1200{10 r1+00}s00101 = 58
            text T1200{11 r1+00}s00101 = NONE
            text T1200{11 r1+00}s09101 = NONE
            text T1200{11 r1+00}s10101 = 61
            # With twenty and with twenty-one: numbers that begin with a 2.
            text T1200{20 r1+00}s18201 = 108
            text T1200{21 r1+00}s18201 = NONE
            text T1200{21 r1+00}s20201 = 111
            text T1200{22 r1+00}s20211 = NONE
            """);
    }

    private static void errors(Edges edges) {
        edges.of(4, "The error position is the index of the first character that these rules do not allow at its place",
                """
            # Of two such characters the first one counts; what is behind it may be anything.
            text x = 0
            text xT1200 = 0
            text T5999 = 1
            text T1599 = 2
            text T1205x = 4
            text T1200x = 5
            text T1200xr0 = 5
            text T1200r0x = 6
            text T1200r1x0 = 7
            text T1200r1+00xk = 10
            text T1200T1200 = 5
            """);
        edges.of(4, "There are no blanks.", """
            text T1200r1+00 = NONE
            append(32)
            errorPosition() = 10
            new
            append(32)
            type T1200
            errorPosition() = 0
            text T 1200 = 1
            text T12 00 = 3
            text T1200 r1+00 = 5
            text T1200r 1+00 = 6
            text T1200r1 +00 = 7
            text T1200r1+ 00 = 8
            text T1200r1+0 0 = 9
            new
            # A line's end and a 0 byte are no better.
            type T1200
            append(10)
            errorPosition() = 5
            new
            type T1200
            append(0)
            errorPosition() = 5
            load() ! state
            """);
        edges.of(4, "The text is read from left to right.", """
            text T1200kr1+00 = 5
            text T1200r1+00k = NONE
            text T1200s00010r1+00r1+00 = 5
            text T1200r1+00s00010r1+00 = 10
            text T1200r1+00r1+00s00010 = NONE
            """);
    }

    private static void load(Edges edges) {
        edges.of(5, "Returns the number of rows.", """
            load() ! state
            type T1200
            load() = 0
            type r1+00
            load() = 1
            type {22 r1+00}
            load() = 23
            type r1+00
            load() = 24
            type r1+00
            load() ! state
            about(1) = 24
            """);
        edges.of(5, "Throws IllegalStateException if the text is not a table", """
            load() ! state
            type T120
            load() ! state
            append(48) = 5
            load() = 0
            append(120) = 6
            load() ! state
            new
            # A table with nothing but its last character missing, in an object that has rows of its own.
            addRow(6, 6)
            save(1)
            type T1200r1+0
            load() ! state
            about(1) = 1
            restore(1) = 1
            append(48) = 10
            load() = 1
            row(0, 0) = 1
            restore(1) ! state
            """);
        edges.of(5, "Replaces everything by the table of the text.", """
            2 * addRow(6, 6)
            keep(0, true)
            addSpan(0, 1, false)
            setAmount(1, 0, 99)
            setHeight(0, 40)
            setHeight(1, 4)
            setHeight(2, 3)
            setHeight(7, 3)
            type T2060r1+00+00
            load() = 1
            about(0) = 2
            about(1) = 1
            about(2) = 0
            about(3) = 6
            about(4) = 0
            about(5) = 1
            row(0, 0) = 1
            row(0, 1) = 0
            row(0, 2) = 0
            note(1) = 1
            note(6) = 1
            addRow(1, 0) = 1
            amount(1, 0) = 0
            amount(1, 1) = 0
            row(1, 2) = 0
            span(0, 0) ! index
            """);
        edges.of(5, "Keeps the text.", """
            type T1200{24 r1+00}{35 k}
            load() = 24
            append(107) ! state
            errorPosition() = NONE
            load() = 24
            clearText() = 160
            load() ! state
            about(1) = 24
            """);
    }

    private static void loadForgets(Edges edges) {
        edges.of(5, "Forgets all remembered states and", """
            type T1200
            load() = 0
            undo() ! state
            addRow(1, 0)
            load() = 0
            undo() ! state
            15 * addRow(1, 0)
            load() = 0
            undo() ! state
            # Behind it as many are remembered as there have been actions since.
            addRow(2, 0)
            undo() = 0
            about(1) = 0
            undo() ! state
            14 * addRow(1, 0)
            undo() = 13
            """);
        edges.of(5, "empties both save slots.", """
            type T1200
            save(0)
            load() = 0
            restore(0) ! state
            restore(1) ! state
            save(0)
            save(1)
            load() = 0
            restore(0) ! state
            restore(1) ! state
            save(1)
            restore(0) ! state
            restore(1) = 0
            """);
        edges.of(5, "load and restore are not actions.", """
            type T1200
            addRow(1, 0)
            load() = 0
            undo() ! state
            load() = 0
            undo() ! state
            """);
        edges.of(5, "IllegalStateException means what the method says.", """
            type T1200k
            load() ! state
            undo() ! state
            restore(0) ! state
            """);
    }
}
