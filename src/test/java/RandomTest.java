import java.util.Random;

/** Random runs of 512 calls, each answer compared with the Oracle's; the seeds are fixed. */
public final class RandomTest {
    private static final int RUNS = 400;
    private final Check check = new Check("RandomTest");
    private final Random random;
    private final TablePager x = new TablePager();
    private final Oracle o = new Oracle();
    private final StringBuilder told = new StringBuilder();

    private RandomTest(int seed) {
        random = new Random(seed);
    }

    public static void main(String[] args) {
        int wrong = 0;
        for (int run = 0; run < RUNS && wrong == 0; run++) {
            wrong += new RandomTest(run).play(run);
        }
        if (wrong != 0) {
            System.exit(1);
        }
    }

    private int play(int run) {
        int calls = 0;
        if (run % 3 != 0) {
            calls = start();
        }
        while (calls < 512 && check.wrong() == 0) {
            calls += step(run % 7 == 0);
        }
        if (check.wrong() == 0) {
            comparePossibleCuts();
        }
        if (check.wrong() != 0) {
            System.out.println("run " + run + ":" + told);
        }
        return check.wrong();
    }

    /** The oracle's reckoning of the best cuts is itself compared with all ways to cut. */
    private void comparePossibleCuts() {
        int places = 0;
        for (int r = 0; r < o.now.n() - 1; r++) {
            places += o.now.canCut(r) ? 1 : 0;
        }
        if (places > 9) {
            return;
        }
        int[] all = o.now.bestOfAll();
        if (!java.util.Arrays.equals(all, o.now.best())) {
            check.tell("the oracle's best cuts are not the best of all");
        }
    }

    /** A text that is mostly a table, typed and loaded. */
    private int start() {
        String text = randomText();
        for (int i = 0; i < text.length(); i++) {
            call(0, text.charAt(i), 0, 0);
        }
        call(2, 0, 0, 0);
        call(3, 0, 0, 0);
        return text.length() + 2;
    }

    private String randomText() {
        StringBuilder s = new StringBuilder();
        int most = 20 + random.nextInt(141);
        boolean mayBeSpoilt = random.nextInt(4) == 0;
        boolean isSpoilt = false;
        while (s.length() < most) {
            if (isSpoilt || mayBeSpoilt && random.nextInt(60) == 0) {
                // The oracle tells what is allowed behind allowed beginnings only.
                isSpoilt = true;
                s.append("T0123456789+-rknhs ".charAt(random.nextInt(19)));
                continue;
            }
            String next = Oracle.allowed(s.toString());
            char c = next.charAt(random.nextInt(next.length()));
            if (c == Oracle.END) {
                if (s.length() > 30 && random.nextInt(20) == 0) {
                    break;
                }
                c = next.indexOf('r') >= 0 ? 'r' : 'h';
            }
            s.append(c);
        }
        return s.toString();
    }

    /** A row or a page that mostly exists. */
    private int some(int size) {
        return size == 0 || random.nextInt(12) == 0 ? pick(-1, size, size + 1, -7, Integer.MIN_VALUE, Integer.MAX_VALUE)
                : random.nextInt(size);
    }

    private int pick(int... of) {
        return of[random.nextInt(of.length)];
    }

    private int in(int least, int most) {
        return random.nextInt(15) == 0 ? pick(least - 1, most + 1, Integer.MIN_VALUE, Integer.MAX_VALUE)
                : least + random.nextInt(most - least + 1);
    }

    private int step(boolean grows) {
        int n = o.now.n();
        int columns = o.now.columns;
        int pages = o.now.pages(o.now.page).size();
        int spans = o.now.spans.size();
        int which = random.nextInt(30);
        if (which < 4 && random.nextInt(3) != 0) {
            which = 12 + random.nextInt(8);
        }
        switch (which) {
            case 0: return call(0, typedNext(), 0, 0);
            case 1: return random.nextInt(8) == 0 ? call(1, 0, 0, 0) : call(0, typedNext(), 0, 0);
            case 2: return call(2, 0, 0, 0);
            case 3: return random.nextInt(6) == 0 ? call(3, 0, 0, 0) : call(2, 0, 0, 0);
            case 4: return call(4, in(0, 7), 0, 0);
            case 5: return call(5, some(n), in(0, 4), 0);
            case 6: return call(6, some(n), some(columns), 0);
            case 7: return call(7, some(spans), in(0, 3), 0);
            case 8: return call(8, in(1, 6), 0, 0);
            case 9: return call(9, some(pages), in(0, 5), 0);
            case 10: return call(10 + random.nextInt(2), some(pages), some(columns), 0);
            case 11: return call(12, some(columns), 0, 0);
            case 12:
            case 13: return call(13, in(1, 6), in(0, 6), 0);
            case 14: return call(14, some(n), some(columns), in(-99, 99));
            case 15: return call(15, some(n), random.nextInt(grows ? 2 : 5), 0);
            case 16: return call(grows ? 13 : 16, grows ? in(1, 6) : some(n), in(0, 6), 0);
            case 17: return call(17, some(n), some(n), random.nextInt(2));
            case 18: return random.nextInt(3) == 0 ? call(18, some(spans), 0, 0)
                    : call(17, some(n), some(n), random.nextInt(2));
            case 19: return setSomeHeight();
            case 20: return random.nextInt(3) == 0 ? call(20, 0, 0, 0) : call(13, in(1, 6), in(0, 6), 0);
            case 21: return call(21, in(1, 24), 0, 0);
            case 22: return call(22, 0, 0, 0);
            case 23: return call(23, in(0, 12), 0, 0);
            case 24: return call(24, some(n), 0, 0);
            case 25:
            case 26: return script();
            case 27: return simulation();
            case 28: return call(27, in(0, 1), 0, 0);
            default: return random.nextInt(4) == 0 ? call(28, in(0, 1), 0, 0) : call(9, some(pages), in(0, 5), 0);
        }
    }

    private int typedNext() {
        if (random.nextInt(20) == 0) {
            return pick(-1, 256, 255, 0, 32, Integer.MAX_VALUE, Integer.MIN_VALUE);
        }
        boolean isBeginning = o.errorPosition() == Oracle.NONE || o.errorPosition() == o.text.length();
        String next = isBeginning ? Oracle.allowed(o.text).replace(String.valueOf(Oracle.END), "") : "T";
        return next.isEmpty() ? 'T' : next.charAt(random.nextInt(next.length()));
    }

    private int setSomeHeight() {
        int what = in(0, 7);
        int height = what == 0 ? in(6, 40) : what == 1 ? in(0, 4) : in(1, 3);
        return call(19, what, height, 0);
    }

    private int script() {
        int n = in(1, 3);
        StringBuilder digits = new StringBuilder();
        for (int i = 0; i < n && i < 3; i++) {
            digits.append(command());
        }
        long script = digits.length() == 0 ? 0 : Long.parseLong(digits.toString());
        if (random.nextInt(15) == 0) {
            script = random.nextInt(3) == 0 ? -script : script * 10 + random.nextInt(10);
        }
        if (random.nextInt(15) == 0) {
            script = new long[] {0, -1, 99999, 100000, 9999999999L, 10000000000L, 999999999999999L, 1000000000000000L,
                Long.MIN_VALUE, Long.MAX_VALUE}[random.nextInt(10)];
        }
        return compare("runScript(" + n + ", " + script + ")", script, n, 0);
    }

    private String command() {
        int row = o.now.n() == 0 ? 0 : random.nextInt(o.now.n() + 1);
        String rr = (row < 10 ? "0" : "") + row;
        int d = random.nextInt(10);
        switch (random.nextInt(11)) {
            case 0: return "1" + random.nextInt(8) + random.nextInt(8) + "00";
            case 1: return "2" + rr + random.nextInt(5) + d;
            case 2: return "3" + rr + random.nextInt(3) + "0";
            case 3: return "4" + rr + "00";
            case 4: return "50" + random.nextInt(5) + d + "0";
            case 5: return "5" + random.nextInt(9) + "0" + random.nextInt(5) + "0";
            case 6: return "6000" + d;
            case 7: return "7" + "0" + random.nextInt(3) + rr;
            case 8: return "8" + random.nextInt(4) + random.nextInt(4) + "00";
            case 9: return "9000" + random.nextInt(3);
            default:
                String any = String.valueOf(100000 + random.nextInt(100000));
                return any.substring(1);
        }
    }

    private int simulation() {
        long seed = random.nextBoolean() ? random.nextLong() : random.nextInt(5) - 2;
        return compare("simulate(" + seed + ", m)", seed, in(1, 99), 1);
    }

    private int compare(String call, long big, int small, int which) {
        told.append(' ').append(call).append('/').append(small);
        check.sameOutcome(call,
                Check.outcome(() -> which == 0 ? x.runScript(small, big) : x.simulate(big, small)),
                Check.outcome(() -> which == 0 ? o.runScript(small, big) : o.simulate(big, small)));
        return 1;
    }

    private int call(int m, int a, int b, int c) {
        String name = m + "(" + a + ", " + b + ", " + c + ")";
        told.append(' ').append(name);
        check.sameOutcome(name, Check.outcome(() -> ask(m, a, b, c)), Check.outcome(() -> askOracle(m, a, b, c)));
        return 1;
    }

    private long ask(int m, int a, int b, int c) {
        switch (m) {
            case 0: return x.append(a);
            case 1: return x.clearText();
            case 2: return x.errorPosition();
            case 3: return x.load();
            case 4: return x.about(a);
            case 5: return x.row(a, b);
            case 6: return x.amount(a, b);
            case 7: return x.span(a, b);
            case 8: return x.note(a);
            case 9: return x.page(a, b);
            case 10: return x.brought(a, b);
            case 11: return x.carried(a, b);
            case 12: return x.richest(a);
            case 13: return x.addRow(a, b);
            case 14: return x.setAmount(a, b, c);
            case 15: return x.keep(a, b == 1);
            case 16: return x.removeRow(a);
            case 17: return x.addSpan(a, b, c == 1);
            case 18: return x.removeSpan(a);
            case 19: return x.setHeight(a, b);
            case 20: return x.undo();
            case 21: return x.heightFor(a);
            case 22: return x.evenest();
            case 23: return x.evenCut(a);
            case 24: return x.emptyFrom(a);
            case 27: return x.save(a);
            default: return x.restore(a);
        }
    }

    private long askOracle(int m, int a, int b, int c) {
        switch (m) {
            case 0: return o.append(a);
            case 1: return o.clearText();
            case 2: return o.errorPosition();
            case 3: return o.load();
            case 4: return o.about(a);
            case 5: return o.row(a, b);
            case 6: return o.amount(a, b);
            case 7: return o.span(a, b);
            case 8: return o.note(a);
            case 9: return o.page(a, b);
            case 10: return o.brought(a, b);
            case 11: return o.carried(a, b);
            case 12: return o.richest(a);
            case 13: return o.addRow(a, b);
            case 14: return o.setAmount(a, b, c);
            case 15: return o.keep(a, b == 1);
            case 16: return o.removeRow(a);
            case 17: return o.addSpan(a, b, c == 1);
            case 18: return o.removeSpan(a);
            case 19: return o.setHeight(a, b);
            case 20: return o.undo();
            case 21: return o.heightFor(a);
            case 22: return o.evenest();
            case 23: return o.evenCut(a);
            case 24: return o.emptyFrom(a);
            case 27: return o.save(a);
            default: return o.restore(a);
        }
    }
}
