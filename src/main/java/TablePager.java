/**
 * A table of figures that is split across pages.
 *
 * The state (a Table) is kept apart from the text, the save slots and the remembered states, so that
 * undo, save and restore are plain copies of a Table. Pages are laid anew for each question: that is
 * cheap, and nothing can be out of date. All Tables are made in the constructor and used again.
 */
public final class TablePager {
    public static final int NONE = -999999;

    private static final int MOST_ROWS = 24;
    private static final int MOST_COLUMNS = 4;
    private static final int MOST_SPANS = 6;
    private static final int MOST_NOTES = 6;
    private static final int MOST_ROW_HEIGHT = 6;
    private static final int MOST_AMOUNT = 99;
    private static final int LEAST_PAGE_HEIGHT = 6;
    private static final int MOST_PAGE_HEIGHT = 40;
    private static final int MOST_HEADING_HEIGHT = 4;
    private static final int MOST_NOTE_HEIGHT = 3;
    private static final int MOST_SIGNS = 160;
    private static final int MOST_SIGN = 255;
    private static final int MOST_REMEMBERED = 14;
    private static final int MOST_SLOTS = 2;
    private static final int MOST_COMMANDS = 3;
    private static final int MOST_ROUNDS = 99;
    /** A group of a script is a number below this: five digits. */
    private static final long GROUP = 100000L;

    private final Text text = new Text();
    private final Table table = new Table();
    private final History history = new History();
    private final Slots slots = new Slots();
    private final Layout layout = new Layout();
    private final Evener evener = new Evener();
    private final Command command = new Command();
    private final Table scratch = new Table();

    public TablePager() {
    }

    // ---- text

    public int append(int c) throws IllegalArgumentException, IllegalStateException {
        if (c < 0 || c > MOST_SIGN) {
            throw new IllegalArgumentException("no character code");
        }
        if (text.isFull()) {
            throw new IllegalStateException("the text is full");
        }
        text.put((char) c);
        return text.length;
    }

    public int clearText() {
        int before = text.length;
        text.length = 0;
        return before;
    }

    public int errorPosition() {
        return text.readInto(scratch);
    }

    public int load() throws IllegalStateException {
        if (text.readInto(scratch) != NONE) {
            throw new IllegalStateException("the text is not a table");
        }
        table.copyFrom(scratch);
        history.forget();
        slots.empty();
        return table.rows;
    }

    // ---- the table

    public int about(int what) throws IllegalArgumentException {
        switch (what) {
            case 0: return table.columns;
            case 1: return table.rows;
            case 2: return table.spans;
            case 3: return table.pageHeight;
            case 4: return table.headingHeight;
            case 5: return countPages();
            case 6: layOut(); return layout.overfull;
            case 7: layOut(); return layout.countCutSpans(table);
            default: throw new IllegalArgumentException("no such number of the table");
        }
    }

    public int row(int r, int what) throws IndexOutOfBoundsException, IllegalArgumentException {
        requireRow(r);
        switch (what) {
            case 0: return table.heights[r];
            case 1: return table.notes[r];
            case 2: return table.stays[r] ? 1 : 0;
            case 3: return isIn(table.cutRows(), r) ? 1 : 0;
            case 4: layOut(); return layout.pageOf(r);
            default: throw new IllegalArgumentException("no such number of a row");
        }
    }

    public int amount(int r, int c) throws IndexOutOfBoundsException {
        requireRow(r);
        requireColumn(c);
        return table.amountAt(r, c);
    }

    public int span(int s, int what) throws IndexOutOfBoundsException, IllegalArgumentException {
        requireSpan(s);
        switch (what) {
            case 0: return table.firsts[s];
            case 1: return table.lasts[s];
            case 2: return table.mayBeCut[s] ? 1 : 0;
            case 3: layOut(); return layout.pagesOfSpan(table, s);
            default: throw new IllegalArgumentException("no such number of a span");
        }
    }

    public int note(int n) throws IllegalArgumentException {
        if (n < 1 || n > MOST_NOTES) {
            throw new IllegalArgumentException("no such note");
        }
        return table.noteHeights[n];
    }

    // ---- the pages

    public int page(int p, int what) throws IndexOutOfBoundsException, IllegalArgumentException {
        requirePage(p);
        Sheet sheet = layout.sheetOf(table, p);
        switch (what) {
            case 0: return layout.firstOf(p);
            case 1: return layout.lastOf(p);
            case 2: return sheet.needed();
            case 3: return table.pageHeight - sheet.needed();
            case 4: return sheet.names;
            case 5: return sheet.noteBits();
            default: throw new IllegalArgumentException("no such number of a page");
        }
    }

    public int brought(int p, int c) throws IndexOutOfBoundsException {
        requirePage(p);
        requireColumn(c);
        return table.sumOfRows(0, layout.firstOf(p) - 1, c);
    }

    public int carried(int p, int c) throws IndexOutOfBoundsException {
        requirePage(p);
        requireColumn(c);
        return table.sumOfRows(0, layout.lastOf(p), c);
    }

    public int richest(int c) throws IndexOutOfBoundsException {
        requireColumn(c);
        layOut();
        int best = NONE;
        int most = 0;
        for (int p = 0; p < layout.pages; p++) {
            int sum = table.sumOfRows(layout.firstOf(p), layout.lastOf(p), c);
            if (best == NONE || sum > most) {
                best = p;
                most = sum;
            }
        }
        return best;
    }

    // ---- actions

    public int addRow(int height, int note) throws IllegalArgumentException, IllegalStateException {
        if (!Table.allowsRow(height, note)) {
            throw new IllegalArgumentException("no such height or note of a row");
        }
        if (table.isFull()) {
            throw new IllegalStateException("there are as many rows as there may be");
        }
        history.remember(table);
        table.putRow(height, note);
        return table.rows - 1;
    }

    public int setAmount(int r, int c, int v) throws IndexOutOfBoundsException, IllegalArgumentException {
        requireRow(r);
        requireColumn(c);
        if (v < -MOST_AMOUNT || v > MOST_AMOUNT) {
            throw new IllegalArgumentException("no such amount");
        }
        history.remember(table);
        int before = table.amountAt(r, c);
        table.putAmount(r, c, v);
        return before;
    }

    public int keep(int r, boolean is) throws IndexOutOfBoundsException {
        requireRow(r);
        history.remember(table);
        table.stays[r] = is;
        return countPages();
    }

    public int removeRow(int r) throws IndexOutOfBoundsException {
        requireRow(r);
        history.remember(table);
        return table.dropRow(r);
    }

    public int addSpan(int first, int last, boolean cut)
            throws IndexOutOfBoundsException, IllegalArgumentException, IllegalStateException {
        requireRow(first);
        requireRow(last);
        if (last <= first) {
            throw new IllegalArgumentException("the last row is not behind the first one");
        }
        if (table.hasAllSpans()) {
            throw new IllegalStateException("there are as many spans as there may be");
        }
        history.remember(table);
        table.putSpan(first, last, cut);
        return table.spans - 1;
    }

    public int removeSpan(int s) throws IndexOutOfBoundsException {
        requireSpan(s);
        history.remember(table);
        table.dropSpan(s);
        return countPages();
    }

    public int setHeight(int what, int height) throws IllegalArgumentException {
        if (!Table.allowsHeight(what, height)) {
            throw new IllegalArgumentException("no such height");
        }
        history.remember(table);
        table.putHeight(what, height);
        return countPages();
    }

    public int undo() throws IllegalStateException {
        if (history.count == 0) {
            throw new IllegalStateException("no state is remembered");
        }
        history.takeBack(table);
        return history.count;
    }

    // ---- what would be

    public int heightFor(int n) throws IllegalArgumentException {
        if (n < 1 || n > MOST_ROWS) {
            throw new IllegalArgumentException("no such number of pages");
        }
        // Every height is tried: the document doesn't say that a greater one needs no more pages.
        for (int height = LEAST_PAGE_HEIGHT; height <= MOST_PAGE_HEIGHT; height++) {
            layout.lay(table, height);
            if (layout.pages <= n && layout.overfull == 0) {
                return height;
            }
        }
        return NONE;
    }

    public int evenest() {
        return evener.leastCost(table);
    }

    public int evenCut(int i) throws IllegalArgumentException {
        if (i < 0) {
            throw new IllegalArgumentException("no such page");
        }
        evener.leastCost(table);
        return evener.lastOf(table, i);
    }

    public int emptyFrom(int r) throws IndexOutOfBoundsException {
        requireRow(r);
        return layout.emptyFromRow(table, r);
    }

    // ---- scripts, simulations

    public int runScript(int n, long script) throws IllegalArgumentException {
        if (n < 1 || n > MOST_COMMANDS) {
            throw new IllegalArgumentException("no such number of commands");
        }
        if (script < 0 || withoutGroups(script, n) != 0) {
            throw new IllegalArgumentException("no script of so many commands");
        }
        scratch.copyFrom(table);
        for (int i = 0; i < n; i++) {
            long group = withoutGroups(script, n - 1 - i) % GROUP;
            command.setDigits((int) group);
            if (!command.runOn(scratch, layout)) {
                return i;
            }
        }
        return NONE;
    }

    public int simulate(long seed, int m) throws IllegalArgumentException {
        if (m < 1 || m > MOST_ROUNDS) {
            throw new IllegalArgumentException("no such number of rounds");
        }
        scratch.copyFrom(table);
        long x = seed;
        for (int i = 0; i < m; i++) {
            x = x * 6364136223846793005L + 1442695040888963407L;
            scratch.playRound((int) (x >>> 33));
        }
        layout.lay(scratch, scratch.pageHeight);
        // The answer has one digit for the overfull pages.
        return 1000 * layout.pages + 100 * Math.min(layout.overfull, 9) + scratch.rows;
    }

    // ---- save slots

    public int save(int slot) throws IndexOutOfBoundsException {
        requireSlot(slot);
        slots.put(slot, table);
        return table.rows;
    }

    public int restore(int slot) throws IndexOutOfBoundsException, IllegalStateException {
        requireSlot(slot);
        if (!slots.isFilled(slot)) {
            throw new IllegalStateException("nothing is saved in this slot");
        }
        slots.copyTo(slot, table);
        history.forget();
        return table.rows;
    }

    // ---- what the calls share

    private void layOut() {
        layout.lay(table, table.pageHeight);
    }

    private int countPages() {
        layOut();
        return layout.pages;
    }

    private void requireRow(int r) throws IndexOutOfBoundsException {
        if (!table.hasRow(r)) {
            throw new IndexOutOfBoundsException("no such row");
        }
    }

    private void requireColumn(int c) throws IndexOutOfBoundsException {
        if (!table.hasColumn(c)) {
            throw new IndexOutOfBoundsException("no such column");
        }
    }

    private void requireSpan(int s) throws IndexOutOfBoundsException {
        if (!table.hasSpan(s)) {
            throw new IndexOutOfBoundsException("no such span");
        }
    }

    /** Leaves the pages laid out as they are now. */
    private void requirePage(int p) throws IndexOutOfBoundsException {
        layOut();
        if (!layout.hasPage(p)) {
            throw new IndexOutOfBoundsException("no such page");
        }
    }

    private static void requireSlot(int slot) throws IndexOutOfBoundsException {
        if (slot < 0 || slot >= MOST_SLOTS) {
            throw new IndexOutOfBoundsException("no such save slot");
        }
    }

    /** What is left of a script if its lowest groups are left away. */
    private static long withoutGroups(long script, int groups) {
        long rest = script;
        for (int i = 0; i < groups; i++) {
            rest = rest / GROUP;
        }
        return rest;
    }

    private static boolean isIn(int bits, int r) {
        return (bits >>> r & 1) != 0;
    }

    /** The state. Its callers look whether a row, a column or a span exists before they name it. */
    private static final class Table {
        private int columns;
        private int rows;
        private int spans;
        private int pageHeight;
        private int headingHeight;
        private final int[] heights = new int[MOST_ROWS];
        private final int[] notes = new int[MOST_ROWS];
        private final boolean[] stays = new boolean[MOST_ROWS];
        private final int[] amounts = new int[MOST_ROWS * MOST_COLUMNS];
        private final int[] firsts = new int[MOST_SPANS];
        private final int[] lasts = new int[MOST_SPANS];
        private final boolean[] mayBeCut = new boolean[MOST_SPANS];
        /** Under 0, which means no note, stands the height 0. */
        private final int[] noteHeights = new int[MOST_NOTES + 1];

        private Table() {
            makeNew();
        }

        private void makeNew() {
            columns = 1;
            rows = 0;
            spans = 0;
            pageHeight = 20;
            headingHeight = 1;
            for (int n = 1; n <= MOST_NOTES; n++) {
                noteHeights[n] = 1;
            }
        }

        private void copyFrom(Table other) {
            columns = other.columns;
            rows = other.rows;
            spans = other.spans;
            pageHeight = other.pageHeight;
            headingHeight = other.headingHeight;
            System.arraycopy(other.heights, 0, heights, 0, MOST_ROWS);
            System.arraycopy(other.notes, 0, notes, 0, MOST_ROWS);
            System.arraycopy(other.amounts, 0, amounts, 0, MOST_ROWS * MOST_COLUMNS);
            System.arraycopy(other.firsts, 0, firsts, 0, MOST_SPANS);
            System.arraycopy(other.lasts, 0, lasts, 0, MOST_SPANS);
            System.arraycopy(other.noteHeights, 0, noteHeights, 0, MOST_NOTES + 1);
            for (int r = 0; r < MOST_ROWS; r++) {
                stays[r] = other.stays[r];
            }
            for (int s = 0; s < MOST_SPANS; s++) {
                mayBeCut[s] = other.mayBeCut[s];
            }
        }

        private boolean hasRow(int r) {
            return r >= 0 && r < rows;
        }

        private boolean hasColumn(int c) {
            return c >= 0 && c < columns;
        }

        private boolean hasSpan(int s) {
            return s >= 0 && s < spans;
        }

        private boolean isFull() {
            return rows >= MOST_ROWS;
        }

        private boolean hasAllSpans() {
            return spans >= MOST_SPANS;
        }

        private static boolean allowsRow(int height, int note) {
            return height >= 1 && height <= MOST_ROW_HEIGHT && note >= 0 && note <= MOST_NOTES;
        }

        /** What is counted as in setHeight: 0 the page, 1 the heading, 2 to 7 the notes 1 to 6. */
        private static boolean allowsHeight(int what, int height) {
            if (what == 0) {
                return height >= LEAST_PAGE_HEIGHT && height <= MOST_PAGE_HEIGHT;
            }
            if (what == 1) {
                return height >= 0 && height <= MOST_HEADING_HEIGHT;
            }
            return what >= 2 && what <= MOST_NOTES + 1 && height >= 1 && height <= MOST_NOTE_HEIGHT;
        }

        private void putHeight(int what, int height) {
            if (what == 0) {
                pageHeight = height;
            } else if (what == 1) {
                headingHeight = height;
            } else {
                noteHeights[what - 1] = height;
            }
        }

        private int amountAt(int r, int c) {
            return amounts[r * MOST_COLUMNS + c];
        }

        private void putAmount(int r, int c, int v) {
            amounts[r * MOST_COLUMNS + c] = v;
        }

        private int sumOfRows(int first, int last, int c) {
            int sum = 0;
            for (int r = first; r <= last; r++) {
                sum += amountAt(r, c);
            }
            return sum;
        }

        private void putRow(int height, int note) {
            int r = rows;
            heights[r] = height;
            notes[r] = note;
            stays[r] = false;
            for (int c = 0; c < MOST_COLUMNS; c++) {
                putAmount(r, c, 0);
            }
            rows++;
        }

        /** Answers how many spans go with the row. */
        private int dropRow(int gone) {
            rows--;
            for (int r = gone; r < rows; r++) {
                heights[r] = heights[r + 1];
                notes[r] = notes[r + 1];
                stays[r] = stays[r + 1];
                for (int c = 0; c < MOST_COLUMNS; c++) {
                    putAmount(r, c, amountAt(r + 1, c));
                }
            }
            return takeRowFromSpans(gone);
        }

        private int takeRowFromSpans(int gone) {
            int before = spans;
            spans = 0;
            for (int s = 0; s < before; s++) {
                // A span that begins with the row begins with the next one, which gets the same number.
                int first = gone < firsts[s] ? firsts[s] - 1 : firsts[s];
                int last = gone <= lasts[s] ? lasts[s] - 1 : lasts[s];
                if (last > first) {
                    putSpan(first, last, mayBeCut[s]);
                }
            }
            return before - spans;
        }

        private void putSpan(int first, int last, boolean cut) {
            firsts[spans] = first;
            lasts[spans] = last;
            mayBeCut[spans] = cut;
            spans++;
        }

        private void dropSpan(int gone) {
            spans--;
            for (int s = gone; s < spans; s++) {
                firsts[s] = firsts[s + 1];
                lasts[s] = lasts[s + 1];
                mayBeCut[s] = mayBeCut[s + 1];
            }
        }

        /** The rows behind which the table can be cut, bit r for the row r; not the last one. */
        private int cutRows() {
            if (rows == 0) {
                return 0;
            }
            int bits = upTo(rows - 1);
            for (int r = 0; r < rows; r++) {
                if (stays[r]) {
                    bits &= ~(1 << r);
                }
            }
            for (int s = 0; s < spans; s++) {
                if (!mayBeCut[s]) {
                    bits &= ~(upTo(lasts[s]) & ~upTo(firsts[s]));
                }
            }
            return bits;
        }

        /** The rows behind which a page may end: those of cutRows, and the last one. */
        private int endRows() {
            return rows == 0 ? 0 : cutRows() | 1 << (rows - 1);
        }

        /** The bits of all rows before the row r. */
        private static int upTo(int r) {
            return (1 << r) - 1;
        }

        /** One round of simulate. */
        private void playRound(int r) {
            int kind = r % 3;
            if (kind == 0 && !isFull()) {
                putRow(1 + r / 4 % 6, r / 32 % 7);
            } else if (kind == 1 && rows != 0) {
                int marked = r / 4 % rows;
                stays[marked] = !stays[marked];
            } else if (kind == 2 && rows != 0) {
                dropRow(r / 4 % rows);
            }
        }
    }

    /** The states before the latest actions, in a ring, so that the oldest one is overwritten when it is forgotten. */
    private static final class History {
        private final Table[] kept = new Table[MOST_REMEMBERED];
        private int next;
        private int count;

        private History() {
            for (int i = 0; i < MOST_REMEMBERED; i++) {
                kept[i] = new Table();
            }
        }

        private void forget() {
            count = 0;
        }

        private void remember(Table table) {
            kept[next].copyFrom(table);
            next = (next + 1) % MOST_REMEMBERED;
            count = Math.min(count + 1, MOST_REMEMBERED);
        }

        private void takeBack(Table table) {
            next = (next + MOST_REMEMBERED - 1) % MOST_REMEMBERED;
            count--;
            table.copyFrom(kept[next]);
        }
    }

    private static final class Slots {
        private final Table[] kept = new Table[MOST_SLOTS];
        private final boolean[] filled = new boolean[MOST_SLOTS];

        private Slots() {
            for (int i = 0; i < MOST_SLOTS; i++) {
                kept[i] = new Table();
            }
        }

        private void empty() {
            for (int i = 0; i < MOST_SLOTS; i++) {
                filled[i] = false;
            }
        }

        private boolean isFilled(int slot) {
            return filled[slot];
        }

        private void put(int slot, Table table) {
            kept[slot].copyFrom(table);
            filled[slot] = true;
        }

        private void copyTo(int slot, Table table) {
            table.copyFrom(kept[slot]);
        }
    }

    /** A page that is filled row by row, and what it needs so far. */
    private static final class Sheet {
        private int names;
        private int notes;
        private int lines;
        private int carry;

        private void begin(Table table, int first) {
            names = 0;
            for (int s = 0; s < table.spans; s++) {
                if (table.firsts[s] < first && table.lasts[s] >= first) {
                    names++;
                }
            }
            notes = 0;
            lines = table.headingHeight + names + (first != 0 ? 1 : 0);
            carry = 0;
        }

        /** The rows are taken one after the other. */
        private void take(Table table, int r) {
            lines += table.heights[r];
            int n = table.notes[r];
            if (!isIn(notes, n)) {
                notes |= 1 << n;
                lines += table.noteHeights[n];
            }
            carry = r != table.rows - 1 ? 1 : 0;
        }

        /** The lines that it needs if it ends behind the row that was taken last. */
        private int needed() {
            return lines + carry;
        }

        /** Bit n - 1 for the note n; the bit of no note falls out. */
        private int noteBits() {
            return notes >>> 1;
        }
    }

    /** The pages of a table, as they were laid last. */
    private static final class Layout {
        private int pages;
        private int overfull;
        private final int[] ends = new int[MOST_ROWS];
        private final Sheet sheet = new Sheet();

        private void lay(Table table, int pageHeight) {
            int endRows = table.endRows();
            pages = 0;
            overfull = 0;
            int first = 0;
            while (first < table.rows && pages < MOST_ROWS) {
                int last = lastThatFits(table, first, endRows, pageHeight);
                if (last == NONE) {
                    last = firstEnd(endRows, first);
                    overfull++;
                }
                ends[pages] = last;
                pages++;
                first = last + 1;
            }
        }

        /** Behind a row that does not fit none does: each has at least the line that the sums carried forward need. */
        private int lastThatFits(Table table, int first, int endRows, int pageHeight) {
            int last = NONE;
            sheet.begin(table, first);
            for (int r = first; r < table.rows; r++) {
                sheet.take(table, r);
                if (sheet.needed() > pageHeight) {
                    break;
                }
                if (isIn(endRows, r)) {
                    last = r;
                }
            }
            return last;
        }

        private static int firstEnd(int endRows, int first) {
            int r = first;
            while (r < MOST_ROWS - 1 && !isIn(endRows, r)) {
                r++;
            }
            return r;
        }

        private boolean hasPage(int p) {
            return p >= 0 && p < pages;
        }

        private int firstOf(int p) {
            return p == 0 ? 0 : ends[p - 1] + 1;
        }

        private int lastOf(int p) {
            return ends[p];
        }

        private int pageOf(int r) {
            int p = 0;
            while (p < pages - 1 && ends[p] < r) {
                p++;
            }
            return p;
        }

        private int pagesOfSpan(Table table, int s) {
            return pageOf(table.lasts[s]) - pageOf(table.firsts[s]) + 1;
        }

        private int countCutSpans(Table table) {
            int cut = 0;
            for (int s = 0; s < table.spans; s++) {
                if (pagesOfSpan(table, s) > 1) {
                    cut++;
                }
            }
            return cut;
        }

        private Sheet sheetOf(Table table, int p) {
            fill(table, firstOf(p), lastOf(p));
            return sheet;
        }

        private int emptyFromRow(Table table, int first) {
            int last = lastThatFits(table, first, table.endRows(), table.pageHeight);
            if (last == NONE) {
                return NONE;
            }
            fill(table, first, last);
            return table.pageHeight - sheet.needed();
        }

        private void fill(Table table, int first, int last) {
            sheet.begin(table, first);
            for (int r = first; r <= last; r++) {
                sheet.take(table, r);
            }
        }
    }

    /** The cheapest way to cut the table. */
    private static final class Evener {
        /** The smallest cost of the pages from the one that begins with a row on; behind the last row, 0. */
        private final int[] costs = new int[MOST_ROWS + 1];
        /** Where the page that begins with a row ends then. */
        private final int[] ends = new int[MOST_ROWS];
        private final Sheet sheet = new Sheet();

        private int leastCost(Table table) {
            int endRows = table.endRows();
            costs[table.rows] = 0;
            for (int first = table.rows - 1; first >= 0; first--) {
                chooseEnd(table, first, endRows);
            }
            return costs[0];
        }

        /** Of several ends that cost the same the first is kept, so that the first pages end first. */
        private void chooseEnd(Table table, int first, int endRows) {
            boolean found = false;
            sheet.begin(table, first);
            for (int r = first; r < table.rows; r++) {
                sheet.take(table, r);
                if (isIn(endRows, r)) {
                    int cost = costOfSheet(table, r) + costs[r + 1];
                    if (!found || cost < costs[first]) {
                        found = true;
                        costs[first] = cost;
                        ends[first] = r;
                    }
                }
            }
        }

        private int costOfSheet(Table table, int last) {
            int empty = table.pageHeight - sheet.needed();
            if (empty < 0) {
                return 1000 * -empty;
            }
            return last == table.rows - 1 ? 0 : empty * empty;
        }

        private int lastOf(Table table, int page) {
            int first = 0;
            for (int p = 0; p < MOST_ROWS && first < table.rows; p++) {
                int last = ends[first];
                if (p == page) {
                    return last;
                }
                first = last + 1;
            }
            return NONE;
        }
    }

    /** A command of a script. */
    private static final class Command {
        private int kind;
        private int second;
        private int third;
        private int fourth;
        private int fifth;

        /** The group has at most five digits. */
        private void setDigits(int group) {
            kind = group / 10000;
            second = group / 1000 % 10;
            third = group / 100 % 10;
            fourth = group / 10 % 10;
            fifth = group % 10;
        }

        /** Answers whether it succeeds; if it fails, nothing has changed. */
        private boolean runOn(Table table, Layout layout) {
            switch (kind) {
                case 1: return addsRow(table);
                case 2: return putsAmount(table);
                case 3: return marksRow(table);
                case 4: return dropsRow(table);
                case 5: return putsHeight(table);
                default: return holds(table, layout);
            }
        }

        private boolean holds(Table table, Layout layout) {
            layout.lay(table, table.pageHeight);
            switch (kind) {
                case 6:
                    return second == 0 && third == 0 && layout.pages <= 10 * fourth + fifth;
                case 7:
                    return layout.hasPage(firstPair()) && layout.lastOf(firstPair()) == 10 * fourth + fifth;
                case 8:
                    return fourth == 0 && fifth == 0 && table.hasSpan(second)
                            && layout.pagesOfSpan(table, second) == third;
                case 9:
                    return second == 0 && third == 0 && fourth == 0 && layout.overfull <= fifth;
                default:
                    return false;
            }
        }

        private int firstPair() {
            return 10 * second + third;
        }

        private boolean addsRow(Table table) {
            if (fourth != 0 || fifth != 0 || !Table.allowsRow(second, third) || table.isFull()) {
                return false;
            }
            table.putRow(second, third);
            return true;
        }

        private boolean putsAmount(Table table) {
            if (!table.hasRow(firstPair()) || !table.hasColumn(fourth)) {
                return false;
            }
            table.putAmount(firstPair(), fourth, fifth);
            return true;
        }

        private boolean marksRow(Table table) {
            if (fourth > 1 || fifth != 0 || !table.hasRow(firstPair())) {
                return false;
            }
            table.stays[firstPair()] = fourth == 1;
            return true;
        }

        private boolean dropsRow(Table table) {
            if (fourth != 0 || fifth != 0 || !table.hasRow(firstPair())) {
                return false;
            }
            table.dropRow(firstPair());
            return true;
        }

        private boolean putsHeight(Table table) {
            int height = 10 * third + fourth;
            if (fifth != 0 || !Table.allowsHeight(second, height)) {
                return false;
            }
            table.putHeight(second, height);
            return true;
        }
    }

    /**
     * The text buffer, and the reading of it. Each reading step answers whether it went well and moves on only
     * behind characters that are allowed, so that a failing step leaves the place at the error position.
     */
    private static final class Text {
        private static final int NO_NUMBER = -1;

        private final char[] signs = new char[MOST_SIGNS];
        private int length;
        private int at;

        private boolean isFull() {
            return length >= MOST_SIGNS;
        }

        private void put(char sign) {
            signs[length] = sign;
            length++;
        }

        /** Answers the error position, NONE if the table has been read whole. */
        private int readInto(Table table) {
            at = 0;
            table.makeNew();
            boolean good = readHead(table);
            // Each part has at least one character.
            for (int parts = 0; good && at < length && parts < MOST_SIGNS; parts++) {
                good = readPart(table);
            }
            return good ? NONE : at;
        }

        private boolean readHead(Table table) {
            if (!takeSign('T')) {
                return false;
            }
            int columns = takeDigit(1, MOST_COLUMNS);
            if (columns == NO_NUMBER) {
                return false;
            }
            int pageHeight = takePair(LEAST_PAGE_HEIGHT, MOST_PAGE_HEIGHT);
            if (pageHeight == NO_NUMBER) {
                return false;
            }
            int headingHeight = takeDigit(0, MOST_HEADING_HEIGHT);
            if (headingHeight == NO_NUMBER) {
                return false;
            }
            table.columns = columns;
            table.pageHeight = pageHeight;
            table.headingHeight = headingHeight;
            return true;
        }

        private boolean readPart(Table table) {
            if (!table.isFull() && takeSign('r')) {
                return readRow(table);
            }
            if (table.rows >= 1 && takeSign('k')) {
                table.stays[table.rows - 1] = true;
                return true;
            }
            if (table.rows >= 1 && takeSign('n')) {
                return readNote(table);
            }
            if (takeSign('h')) {
                return readNoteHeight(table);
            }
            if (table.rows >= 2 && !table.hasAllSpans() && takeSign('s')) {
                return readSpan(table);
            }
            return false;
        }

        private boolean readRow(Table table) {
            int height = takeDigit(1, MOST_ROW_HEIGHT);
            if (height == NO_NUMBER) {
                return false;
            }
            int r = table.rows;
            table.putRow(height, 0);
            for (int c = 0; c < table.columns; c++) {
                boolean isNegative = takeSign('-');
                if (!isNegative && !takeSign('+')) {
                    return false;
                }
                int size = takePair(0, MOST_AMOUNT);
                if (size == NO_NUMBER) {
                    return false;
                }
                table.putAmount(r, c, isNegative ? -size : size);
            }
            return true;
        }

        private boolean readNote(Table table) {
            int n = takeDigit(1, MOST_NOTES);
            if (n == NO_NUMBER) {
                return false;
            }
            table.notes[table.rows - 1] = n;
            return true;
        }

        private boolean readNoteHeight(Table table) {
            int n = takeDigit(1, MOST_NOTES);
            if (n == NO_NUMBER) {
                return false;
            }
            int height = takeDigit(1, MOST_NOTE_HEIGHT);
            if (height == NO_NUMBER) {
                return false;
            }
            table.noteHeights[n] = height;
            return true;
        }

        private boolean readSpan(Table table) {
            // The last row told can't be the first one of a span: none is told ahead behind it.
            int first = takePair(0, table.rows - 2);
            if (first == NO_NUMBER) {
                return false;
            }
            int last = takePair(first + 1, table.rows - 1);
            if (last == NO_NUMBER) {
                return false;
            }
            int cut = takeDigit(0, 1);
            if (cut == NO_NUMBER) {
                return false;
            }
            table.putSpan(first, last, cut == 1);
            return true;
        }

        private boolean takeSign(char sign) {
            if (at < length && signs[at] == sign) {
                at++;
                return true;
            }
            return false;
        }

        private int takeDigit(int least, int most) {
            if (at >= length) {
                return NO_NUMBER;
            }
            int digit = signs[at] - '0';
            if (digit < least || digit > most) {
                return NO_NUMBER;
            }
            at++;
            return digit;
        }

        /** A number of two digits; the tens are allowed only if some number of the range begins with them. */
        private int takePair(int least, int most) {
            int tens = takeDigit(least / 10, most / 10);
            if (tens == NO_NUMBER) {
                return NO_NUMBER;
            }
            int ones = takeDigit(Math.max(least - 10 * tens, 0), Math.min(most - 10 * tens, 9));
            return ones == NO_NUMBER ? NO_NUMBER : 10 * tens + ones;
        }
    }
}
