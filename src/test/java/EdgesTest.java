import java.util.Set;
import java.util.TreeSet;

/** A test for each sentence of the document that names a boundary case; Edges tells how they are told. */
public final class EdgesTest {
    /** What the document says without naming a case: each of these has tests of its own elsewhere, or none. */
    private static final String WITHOUT_CASE = """
        Terms: It tells what is on each page, the smallest height with which so many pages suffice, and the cuts that \
        leave the pages most evenly filled.
        Terms: Changes can be undone.
        Terms: Ahead of the calls append, clearText, errorPosition, load the interface says: ---- text.
        Terms: Ahead of the calls about, row, amount, span, note the interface says: ---- the table.
        Terms: Ahead of the calls page, brought, carried, richest the interface says: ---- the pages.
        Terms: Ahead of the calls addRow, setAmount, keep, removeRow, addSpan, removeSpan, setHeight, undo the \
        interface says: ---- actions.
        Terms: Ahead of the calls runScript, simulate the interface says: ---- scripts, simulations.
        Terms: Ahead of the calls save, restore the interface says: ---- save slots.
        Promise 2: append: int append(int c) throws IllegalArgumentException, IllegalStateException: Appends a \
        character to the text buffer.
        Promise 4: errorPosition: int errorPosition(): Checks the text.
        Promise 6: about: int about(int what) throws IllegalArgumentException: Returns a number.
        Promise 6: about: Returns that number.
        Promise 7: row: int row(int r, int what) throws IndexOutOfBoundsException, IllegalArgumentException: Returns a \
        number of a row.
        Promise 7: row: r: row
        Promise 7: row: Returns that number.
        Promise 8: amount: int amount(int r, int c) throws IndexOutOfBoundsException: Returns an amount.
        Promise 8: amount: r: row
        Promise 8: amount: c: column
        Promise 9: span: int span(int s, int what) throws IndexOutOfBoundsException, IllegalArgumentException: Returns \
        a number of a span.
        Promise 9: span: s: span
        Promise 9: span: Returns that number.
        Promise 10: note: int note(int n) throws IllegalArgumentException: Returns the height of a note.
        Promise 10: note: n: note
        Promise 11: page: int page(int p, int what) throws IndexOutOfBoundsException, IllegalArgumentException: \
        Returns a number of a page.
        Promise 11: page: p: page
        Promise 11: page: Returns that number.
        Promise 12: brought: int brought(int p, int c) throws IndexOutOfBoundsException: Returns a sum that is brought \
        forward.
        Promise 12: brought: p: page
        Promise 12: brought: c: column
        Promise 13: carried: int carried(int p, int c) throws IndexOutOfBoundsException: Returns a sum that is carried \
        forward.
        Promise 13: carried: p: page
        Promise 13: carried: c: column
        Promise 14: richest: c: column
        Promise 16: setAmount: int setAmount(int r, int c, int v) throws IndexOutOfBoundsException, \
        IllegalArgumentException: Changes an amount.
        Promise 16: setAmount: r: row
        Promise 16: setAmount: c: column
        Promise 17: keep: int keep(int r, boolean is) throws IndexOutOfBoundsException: Changes whether a row stays \
        with the next one.
        Promise 17: keep: r: row
        Promise 18: removeRow: r: row
        Promise 19: addSpan: first: first row
        Promise 19: addSpan: last: last row
        Promise 20: removeSpan: s: span
        Promise 21: setHeight: int setHeight(int what, int height) throws IllegalArgumentException: Changes a height.
        Promise 24: evenest: int evenest(): Tells how even the pages could be.
        Promise 25: evenCut: int evenCut(int i) throws IllegalArgumentException: Returns where the pages would end so.
        Promise 26: emptyFrom: int emptyFrom(int r) throws IndexOutOfBoundsException: Tells what a cut would cost.
        Promise 26: emptyFrom: r: row
        """;

    public static void main(String[] args) {
        Check check = new Check("EdgesTest");
        Edges edges = new Edges(check);
        EdgesOfTable.test(edges);
        EdgesOfText.test(edges);
        EdgesOfPages.test(edges);
        EdgesOfActions.test(edges);
        EdgesOfUndo.test(edges);
        EdgesOfWouldBe.test(edges);
        EdgesOfScripts.test(edges);
        EdgesOfSlots.test(edges);
        Set<String> withoutCase = new TreeSet<>();
        for (String sentence : WITHOUT_CASE.split("\n")) {
            withoutCase.add(sentence.trim());
        }
        edges.finish(withoutCase);
        check.finish();
    }
}
