import java.util.ArrayList;
import java.util.Arrays;
import java.util.List;

/**
 * The document said a second time, as plainly as possible and without regard to what it costs, to be compared
 * with the class over random calls. It shares no code and, where it can, no way of reckoning with it.
 */
final class Oracle {
    static final int NONE = -999999;
    /** No character that can be typed. */
    static final char END = 999;

    static final class Row {
        int height;
        int note;
        boolean stays;
        int[] amounts;
    }

    static final class Span {
        int first;
        int last;
        boolean cut;
    }

    static final class State {
        int columns = 1;
        int page = 20;
        int heading = 1;
        List<Row> rows = new ArrayList<>();
        List<Span> spans = new ArrayList<>();
        int[] notes = {0, 1, 1, 1, 1, 1, 1};

        State copy() {
            State s = new State();
            s.columns = columns;
            s.page = page;
            s.heading = heading;
            s.notes = notes.clone();
            for (Row r : rows) {
                Row q = new Row();
                q.height = r.height;
                q.note = r.note;
                q.stays = r.stays;
                q.amounts = r.amounts.clone();
                s.rows.add(q);
            }
            for (Span p : spans) {
                s.spans.add(span(p.first, p.last, p.cut));
            }
            return s;
        }

        static Span span(int first, int last, boolean cut) {
            Span p = new Span();
            p.first = first;
            p.last = last;
            p.cut = cut;
            return p;
        }

        int n() {
            return rows.size();
        }

        boolean canCut(int r) {
            if (r == n() - 1 || rows.get(r).stays) {
                return false;
            }
            for (Span p : spans) {
                if (!p.cut && p.first <= r && p.last > r) {
                    return false;
                }
            }
            return true;
        }

        boolean canEnd(int r) {
            return r == n() - 1 || canCut(r);
        }

        int names(int a) {
            int names = 0;
            for (Span p : spans) {
                if (p.first < a && p.last >= a) {
                    names++;
                }
            }
            return names;
        }

        int noteBits(int a, int b) {
            int bits = 0;
            for (int n = 1; n <= 6; n++) {
                for (int r = a; r <= b; r++) {
                    if (rows.get(r).note == n) {
                        bits |= 1 << (n - 1);
                    }
                }
            }
            return bits;
        }

        int need(int a, int b) {
            int need = heading + names(a);
            if (a != 0) {
                need++;
            }
            if (b != n() - 1) {
                need++;
            }
            for (int r = a; r <= b; r++) {
                need += rows.get(r).height;
            }
            for (int n = 1; n <= 6; n++) {
                if ((noteBits(a, b) >> (n - 1)) % 2 == 1) {
                    need += notes[n];
                }
            }
            return need;
        }

        /** Pairs of a first and a last row. */
        List<int[]> pages(int height) {
            List<int[]> pages = new ArrayList<>();
            int a = 0;
            while (a < n()) {
                int end = -1;
                for (int b = n() - 1; b >= a && end < 0; b--) {
                    if (canEnd(b) && need(a, b) <= height) {
                        end = b;
                    }
                }
                for (int b = a; b < n() && end < 0; b++) {
                    if (canEnd(b)) {
                        end = b;
                    }
                }
                pages.add(new int[] {a, end});
                a = end + 1;
            }
            return pages;
        }

        int overfull(int height) {
            int over = 0;
            for (int[] p : pages(height)) {
                if (need(p[0], p[1]) > height) {
                    over++;
                }
            }
            return over;
        }

        int pageOf(int r) {
            int at = 0;
            for (int[] p : pages(page)) {
                if (r >= p[0] && r <= p[1]) {
                    return at;
                }
                at++;
            }
            throw new AssertionError("a row without a page");
        }

        int spread(Span p) {
            int on = 0;
            for (int[] q : pages(page)) {
                if (p.first <= q[1] && p.last >= q[0]) {
                    on++;
                }
            }
            return on;
        }

        int removeRow(int r) {
            // Each span is taken as the set of its rows.
            rows.remove(r);
            int gone = 0;
            List<Span> left = new ArrayList<>();
            for (Span p : spans) {
                List<Integer> of = new ArrayList<>();
                for (int i = p.first; i <= p.last; i++) {
                    if (i != r) {
                        of.add(i > r ? i - 1 : i);
                    }
                }
                if (of.size() < 2) {
                    gone++;
                } else {
                    left.add(span(of.get(0), of.get(of.size() - 1), p.cut));
                }
            }
            spans = left;
            return gone;
        }

        void addRow(int height, int note) {
            Row r = new Row();
            r.height = height;
            r.note = note;
            r.amounts = new int[columns];
            rows.add(r);
        }

        int cost(int a, int b) {
            int empty = page - need(a, b);
            if (empty < 0) {
                return 1000 * -empty;
            }
            return b == n() - 1 ? 0 : empty * empty;
        }

        /** The cost, and behind it the last rows of the pages, of the best way to cut from the row a on. */
        int[] best(int a, int[][] known) {
            if (a == n()) {
                return new int[] {0};
            }
            if (known[a] != null) {
                return known[a];
            }
            int[] best = null;
            for (int b = n() - 1; b >= a; b--) {
                if (!canEnd(b)) {
                    continue;
                }
                int[] rest = best(b + 1, known);
                int[] way = new int[rest.length + 1];
                way[0] = cost(a, b) + rest[0];
                way[1] = b;
                System.arraycopy(rest, 1, way, 2, rest.length - 1);
                if (best == null || Arrays.compare(way, best) < 0) {
                    best = way;
                }
            }
            known[a] = best;
            return best;
        }

        int[] best() {
            return best(0, new int[n()][]);
        }

        /** The same by trying every way to cut, for tables with few places to cut. */
        int[] bestOfAll() {
            List<Integer> places = new ArrayList<>();
            for (int r = 0; r < n() - 1; r++) {
                if (canCut(r)) {
                    places.add(r);
                }
            }
            int[] best = null;
            for (int choice = 0; choice < 1 << places.size(); choice++) {
                List<Integer> ends = new ArrayList<>();
                for (int i = 0; i < places.size(); i++) {
                    if ((choice >> i) % 2 == 1) {
                        ends.add(places.get(i));
                    }
                }
                if (n() > 0) {
                    ends.add(n() - 1);
                }
                int[] way = new int[ends.size() + 1];
                int a = 0;
                for (int i = 0; i < ends.size(); i++) {
                    way[0] += cost(a, ends.get(i));
                    way[i + 1] = ends.get(i);
                    a = ends.get(i) + 1;
                }
                if (best == null || Arrays.compare(way, best) < 0) {
                    best = way;
                }
            }
            return best;
        }
    }

    String text = "";
    State now = new State();
    List<State> remembered = new ArrayList<>();
    State[] slots = new State[2];

    // ---- text

    int append(int c) {
        argument(c >= 0 && c <= 255);
        state(text.length() < 160);
        text = text + (char) c;
        return text.length();
    }

    int clearText() {
        int before = text.length();
        text = "";
        return before;
    }

    int errorPosition() {
        for (int i = 0; i < text.length(); i++) {
            if (allowed(text.substring(0, i)).indexOf(text.charAt(i)) < 0) {
                return i;
            }
        }
        return allowed(text).indexOf(END) >= 0 ? NONE : text.length();
    }

    /** The characters that may stand behind a beginning that is itself allowed, and END if it may end there. */
    static String allowed(String s) {
        if (s.length() == 0) {
            return "T";
        }
        if (s.length() == 1) {
            return "1234";
        }
        if (s.length() <= 3) {
            return nextDigits(s.substring(2), 6, 40);
        }
        if (s.length() == 4) {
            return "01234";
        }
        int columns = s.charAt(1) - '0';
        int rows = 0;
        int spans = 0;
        int at = 5;
        while (at < s.length()) {
            char kind = s.charAt(at);
            int size = kind == 'r' ? 2 + 3 * columns : kind == 'k' ? 1 : kind == 'n' ? 2 : kind == 'h' ? 3 : 6;
            if (at + size > s.length()) {
                return inside(s.substring(at), rows);
            }
            rows += kind == 'r' ? 1 : 0;
            spans += kind == 's' ? 1 : 0;
            at += size;
        }
        return END + "h" + (rows < 24 ? "r" : "") + (rows > 0 ? "kn" : "") + (rows > 1 && spans < 6 ? "s" : "");
    }

    private static String inside(String part, int rows) {
        int n = part.length();
        switch (part.charAt(0)) {
            case 'r':
                return n == 1 ? "123456" : n % 3 == 2 ? "+-" : "0123456789";
            case 'n':
                return "123456";
            case 'h':
                return n == 1 ? "123456" : "123";
            default:
                if (n <= 2) {
                    return nextDigits(part.substring(1), 0, rows - 2);
                }
                if (n <= 4) {
                    return nextDigits(part.substring(3), Integer.parseInt(part.substring(1, 3)) + 1, rows - 1);
                }
                return "01";
        }
    }

    private static String nextDigits(String begun, int least, int most) {
        StringBuilder digits = new StringBuilder();
        for (int v = least; v <= most; v++) {
            String number = (v < 10 ? "0" : "") + v;
            if (number.startsWith(begun)) {
                digits.append(number.charAt(begun.length()));
            }
        }
        return digits.toString();
    }

    int load() {
        state(errorPosition() == NONE);
        State s = new State();
        s.columns = text.charAt(1) - '0';
        s.page = Integer.parseInt(text.substring(2, 4));
        s.heading = text.charAt(4) - '0';
        String rest = text.substring(5);
        while (!rest.isEmpty()) {
            int end = 1;
            while (end < rest.length() && "rknhs".indexOf(rest.charAt(end)) < 0) {
                end++;
            }
            String part = rest.substring(1, end);
            switch (rest.charAt(0)) {
                case 'r':
                    s.addRow(part.charAt(0) - '0', 0);
                    for (int c = 0; c < s.columns; c++) {
                        s.rows.get(s.n() - 1).amounts[c] = Integer.parseInt(part.substring(1 + 3 * c, 4 + 3 * c));
                    }
                    break;
                case 'k':
                    s.rows.get(s.n() - 1).stays = true;
                    break;
                case 'n':
                    s.rows.get(s.n() - 1).note = part.charAt(0) - '0';
                    break;
                case 'h':
                    s.notes[part.charAt(0) - '0'] = part.charAt(1) - '0';
                    break;
                default:
                    s.spans.add(State.span(Integer.parseInt(part.substring(0, 2)),
                            Integer.parseInt(part.substring(2, 4)), part.charAt(4) == '1'));
            }
            rest = rest.substring(end);
        }
        now = s;
        remembered.clear();
        slots = new State[2];
        return s.n();
    }

    // ---- the table

    int about(int what) {
        argument(what >= 0 && what <= 7);
        int cut = 0;
        for (Span p : now.spans) {
            cut += now.spread(p) > 1 ? 1 : 0;
        }
        return new int[] {now.columns, now.n(), now.spans.size(), now.page, now.heading, now.pages(now.page).size(),
            now.overfull(now.page), cut}[what];
    }

    int row(int r, int what) {
        index(r, now.n());
        argument(what >= 0 && what <= 4);
        Row q = now.rows.get(r);
        return new int[] {q.height, q.note, q.stays ? 1 : 0, now.canCut(r) ? 1 : 0, now.pageOf(r)}[what];
    }

    int amount(int r, int c) {
        index(r, now.n());
        index(c, now.columns);
        return now.rows.get(r).amounts[c];
    }

    int span(int s, int what) {
        index(s, now.spans.size());
        argument(what >= 0 && what <= 3);
        Span p = now.spans.get(s);
        return new int[] {p.first, p.last, p.cut ? 1 : 0, now.spread(p)}[what];
    }

    int note(int n) {
        argument(n >= 1 && n <= 6);
        return now.notes[n];
    }

    // ---- the pages

    int page(int p, int what) {
        List<int[]> pages = now.pages(now.page);
        index(p, pages.size());
        argument(what >= 0 && what <= 5);
        int a = pages.get(p)[0];
        int b = pages.get(p)[1];
        return new int[] {a, b, now.need(a, b), now.page - now.need(a, b), now.names(a), now.noteBits(a, b)}[what];
    }

    private int sum(int a, int b, int c) {
        int sum = 0;
        for (int r = a; r < b; r++) {
            sum += now.rows.get(r).amounts[c];
        }
        return sum;
    }

    int brought(int p, int c) {
        index(p, now.pages(now.page).size());
        index(c, now.columns);
        return sum(0, now.pages(now.page).get(p)[0], c);
    }

    int carried(int p, int c) {
        index(p, now.pages(now.page).size());
        index(c, now.columns);
        return sum(0, now.pages(now.page).get(p)[1] + 1, c);
    }

    int richest(int c) {
        index(c, now.columns);
        int best = NONE;
        int most = Integer.MIN_VALUE;
        for (int p = now.pages(now.page).size() - 1; p >= 0; p--) {
            int own = carried(p, c) - brought(p, c);
            if (own >= most) {
                most = own;
                best = p;
            }
        }
        return best;
    }

    // ---- actions

    private void remember() {
        remembered.add(now.copy());
        if (remembered.size() > 14) {
            remembered.remove(0);
        }
    }

    int addRow(int height, int note) {
        argument(height >= 1 && height <= 6 && note >= 0 && note <= 6);
        state(now.n() < 24);
        remember();
        now.addRow(height, note);
        return now.n() - 1;
    }

    int setAmount(int r, int c, int v) {
        index(r, now.n());
        index(c, now.columns);
        argument(v >= -99 && v <= 99);
        remember();
        int before = now.rows.get(r).amounts[c];
        now.rows.get(r).amounts[c] = v;
        return before;
    }

    int keep(int r, boolean is) {
        index(r, now.n());
        remember();
        now.rows.get(r).stays = is;
        return now.pages(now.page).size();
    }

    int removeRow(int r) {
        index(r, now.n());
        remember();
        return now.removeRow(r);
    }

    int addSpan(int first, int last, boolean cut) {
        index(first, now.n());
        index(last, now.n());
        argument(last > first);
        state(now.spans.size() < 6);
        remember();
        now.spans.add(State.span(first, last, cut));
        return now.spans.size() - 1;
    }

    int removeSpan(int s) {
        index(s, now.spans.size());
        remember();
        now.spans.remove(s);
        return now.pages(now.page).size();
    }

    int setHeight(int what, int height) {
        argument(what >= 0 && what <= 7);
        int[] least = {6, 0, 1, 1, 1, 1, 1, 1};
        int[] most = {40, 4, 3, 3, 3, 3, 3, 3};
        argument(height >= least[what] && height <= most[what]);
        remember();
        if (what == 0) {
            now.page = height;
        } else if (what == 1) {
            now.heading = height;
        } else {
            now.notes[what - 1] = height;
        }
        return now.pages(now.page).size();
    }

    int undo() {
        state(!remembered.isEmpty());
        now = remembered.remove(remembered.size() - 1);
        return remembered.size();
    }

    // ---- what would be

    int heightFor(int n) {
        argument(n >= 1 && n <= 24);
        for (int h = 6; h <= 40; h++) {
            if (now.pages(h).size() <= n && now.overfull(h) == 0) {
                return h;
            }
        }
        return NONE;
    }

    int evenest() {
        return now.best()[0];
    }

    int evenCut(int i) {
        argument(i >= 0);
        int[] best = now.best();
        return i < best.length - 1 ? best[i + 1] : NONE;
    }

    int emptyFrom(int r) {
        index(r, now.n());
        int empty = NONE;
        for (int b = r; b < now.n(); b++) {
            if (now.canEnd(b) && now.need(r, b) <= now.page) {
                empty = now.page - now.need(r, b);
            }
        }
        return empty;
    }

    // ---- scripts, simulations

    int runScript(int n, long script) {
        argument(n >= 1 && n <= 3);
        argument(script >= 0 && String.valueOf(script).length() <= 5 * n);
        String digits = String.valueOf(script);
        while (digits.length() < 5 * n) {
            digits = "0" + digits;
        }
        Oracle copy = new Oracle();
        copy.now = now.copy();
        for (int i = 0; i < n; i++) {
            boolean good;
            try {
                good = copy.command(digits.substring(5 * i, 5 * i + 5));
            } catch (RuntimeException e) {
                good = false;
            }
            if (!good) {
                return i;
            }
        }
        return NONE;
    }

    private boolean command(String g) {
        int d2 = g.charAt(1) - '0';
        int d3 = g.charAt(2) - '0';
        int d4 = g.charAt(3) - '0';
        int d5 = g.charAt(4) - '0';
        int front = Integer.parseInt(g.substring(1, 3));
        int back = Integer.parseInt(g.substring(3));
        if (g.matches("1..00")) {
            addRow(d2, d3);
            return true;
        }
        if (g.matches("2....")) {
            setAmount(front, d4, d5);
            return true;
        }
        if (g.matches("3..[01]0")) {
            keep(front, d4 == 1);
            return true;
        }
        if (g.matches("4..00")) {
            removeRow(front);
            return true;
        }
        if (g.matches("5...0")) {
            setHeight(d2, Integer.parseInt(g.substring(2, 4)));
            return true;
        }
        if (g.matches("600..")) {
            return about(5) <= back;
        }
        if (g.matches("7....")) {
            return page(front, 1) == back;
        }
        if (g.matches("8..00")) {
            return span(d2, 3) == d3;
        }
        return g.matches("9000.") && about(6) <= d5;
    }

    int simulate(long seed, int m) {
        argument(m >= 1 && m <= 99);
        State s = now.copy();
        long x = seed;
        for (int i = 0; i < m; i++) {
            x = x * 6364136223846793005L + 1442695040888963407L;
            int r = (int) (x >>> 33);
            int n = s.n();
            if (r % 3 == 0 && n < 24) {
                s.addRow(1 + r / 4 % 6, r / 32 % 7);
            }
            if (r % 3 == 1 && n != 0) {
                Row q = s.rows.get(r / 4 % n);
                q.stays = !q.stays;
            }
            if (r % 3 == 2 && n != 0) {
                s.removeRow(r / 4 % n);
            }
        }
        int over = s.overfull(s.page);
        return 1000 * s.pages(s.page).size() + 100 * (over > 9 ? 9 : over) + s.n();
    }

    // ---- save slots

    int save(int slot) {
        index(slot, 2);
        slots[slot] = now.copy();
        return now.n();
    }

    int restore(int slot) {
        index(slot, 2);
        state(slots[slot] != null);
        now = slots[slot].copy();
        remembered.clear();
        return now.n();
    }

    private static void index(int i, int size) {
        if (i < 0 || i >= size) {
            throw new IndexOutOfBoundsException();
        }
    }

    private static void argument(boolean good) {
        if (!good) {
            throw new IllegalArgumentException();
        }
    }

    private static void state(boolean good) {
        if (!good) {
            throw new IllegalStateException();
        }
    }
}
