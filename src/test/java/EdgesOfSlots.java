/** The sentences about the save slots: promises 29 and 30. */
final class EdgesOfSlots {
    private EdgesOfSlots() {
    }

    static void test(Edges edges) {
        save(edges);
        saveAgain(edges);
        restore(edges);
        restoreFails(edges);
        restoreForgets(edges);
    }

    private static void save(Edges edges) {
        edges.of(29, "slot: 0 or 1", """
            save(-1) ! index
            save(0) = 0
            save(1) = 0
            save(2) ! index
            """);
        edges.of(29, "Throws IndexOutOfBoundsException if there is no such save slot", """
            save(-1) ! index
            save(2) ! index
            save(least) ! index
            save(most) ! index
            restore(0) ! state
            restore(1) ! state
            """);
        edges.of(29, "Returns the number of rows.", """
            save(0) = 0
            addRow(1, 0)
            save(1) = 1
            23 * addRow(1, 0)
            save(0) = 24
            addRow(1, 0) ! state
            save(1) = 24
            removeRow(0)
            save(1) = 23
            """);
    }

    private static void saveAgain(Edges edges) {
        edges.of(29, "Stores the present state in a save slot.", """
            type T2083r1+01+02kr2-03+04n2r3+05+06s00011s01020h22
            load() = 3
            save(1)
            # Nothing that comes behind it touches what is stored.
            addRow(5, 5)
            setAmount(1, 1, 50)
            keep(0, false)
            removeRow(2)
            addSpan(0, 2, true)
            removeSpan(0)
            setHeight(0, 33)
            setHeight(1, 0)
            setHeight(3, 3)
            save(0)
            restore(1) = 3
            amount(1, 1) = 4
            row(0, 2) = 1
            row(2, 0) = 3
            about(2) = 2
            span(1, 0) = 1
            span(1, 2) = 0
            about(3) = 8
            about(4) = 3
            note(2) = 2
            # The other slot has what was stored in it; the later state takes the earlier one's place.
            restore(0) = 3
            about(3) = 33
            save(1)
            restore(1) = 3
            about(3) = 33
            """);
    }

    private static void restore(Edges edges) {
        edges.of(30, "slot: 0 or 1", """
            save(0)
            save(1)
            restore(-1) ! index
            restore(0) = 0
            restore(1) = 0
            restore(2) ! index
            """);
        edges.of(30, "Throws IndexOutOfBoundsException if there is no such save slot", """
            addRow(1, 0)
            restore(-1) ! index
            restore(2) ! index
            save(0)
            save(1)
            restore(-1) ! index
            restore(2) ! index
            restore(least) ! index
            restore(most) ! index
            """);
        edges.of(30, "Returns the number of rows then.", """
            save(0)
            24 * addRow(1, 0)
            save(1)
            restore(0) = 0
            about(1) = 0
            restore(1) = 24
            about(1) = 24
            addRow(1, 0) ! state
            """);
        edges.of(30, "The save slot keeps it.", """
            addRow(1, 0)
            save(0)
            restore(0) = 1
            removeRow(0)
            restore(0) = 1
            setHeight(0, 40)
            restore(0) = 1
            about(3) = 20
            undo() ! state
            restore(0) = 1
            """);
    }

    private static void restoreFails(Edges edges) {
        edges.of(30, "Throws IllegalStateException if nothing has been saved in it since the last load", """
            type T1200r1+00
            restore(0) ! state
            restore(1) ! state
            save(1)
            restore(0) ! state
            restore(1) = 0
            load() = 1
            restore(0) ! state
            restore(1) ! state
            save(0)
            restore(1) ! state
            restore(0) = 1
            # A load that is refused is none.
            append(120)
            load() ! state
            restore(0) = 1
            restore(1) ! state
            """);
    }

    private static void restoreForgets(Edges edges) {
        edges.of(30, "Replaces the state by the one in a save slot, and forgets all remembered states.", """
            addRow(1, 0)
            save(0)
            restore(0) = 1
            undo() ! state
            14 * addRow(2, 0)
            restore(0) = 1
            undo() ! state
            addRow(3, 0)
            undo() = 0
            about(1) = 1
            row(0, 0) = 1
            undo() ! state
            # A restore that is refused forgets nothing.
            addRow(4, 0)
            restore(1) ! state
            restore(2) ! index
            undo() = 0
            # The text stays as it is.
            type T12
            restore(0) = 1
            clearText() = 3
            """);
    }
}
