/** Counts the answers that are not as due, and tells them. */
final class Check {
    interface Call {
        long run();
    }

    private final String test;
    private int wrong;

    Check(String test) {
        this.test = test;
    }

    void same(String call, long got, long due) {
        if (got != due) {
            tell(call + " answered " + got + ", due is " + due);
        }
    }

    void index(String call, Call c) {
        fails(call, c, "IndexOutOfBoundsException");
    }

    void argument(String call, Call c) {
        fails(call, c, "IllegalArgumentException");
    }

    void state(String call, Call c) {
        fails(call, c, "IllegalStateException");
    }

    private void fails(String call, Call c, String due) {
        String got = outcome(c);
        if (!got.equals("throws." + due)) {
            tell(call + " answered " + got + ", due is throws." + due);
        }
    }

    void sameOutcome(String call, String got, String due) {
        if (!got.equals(due)) {
            tell(call + " answered " + got + ", due is " + due);
        }
    }

    /** The class of an exception is told exactly: a subclass is another answer. */
    static String outcome(Call c) {
        try {
            return String.valueOf(c.run());
        } catch (RuntimeException e) {
            return "throws." + e.getClass().getSimpleName();
        }
    }

    void tell(String fault) {
        wrong++;
        if (wrong <= 20) {
            System.out.println(test + ": " + fault);
        }
    }

    int wrong() {
        return wrong;
    }

    void finish() {
        if (wrong != 0) {
            System.out.println(test + ": " + wrong + " answers are not as due");
            System.exit(1);
        }
    }

    // ---- what several tests make

    static void type(TablePager x, String text) {
        for (int i = 0; i < text.length(); i++) {
            x.append(text.charAt(i));
        }
    }

    static TablePager loaded(String text) {
        TablePager x = new TablePager();
        type(x, text);
        x.load();
        return x;
    }

    /** All that can be asked of the state, so that a call that changes something shows. */
    static String portrait(TablePager x) {
        StringBuilder all = new StringBuilder();
        for (int w = 0; w <= 7; w++) {
            all.append(x.about(w)).append(' ');
        }
        for (int r = 0; r < x.about(1); r++) {
            all.append("r");
            for (int w = 0; w <= 4; w++) {
                all.append(x.row(r, w)).append(' ');
            }
            for (int c = 0; c < x.about(0); c++) {
                all.append(x.amount(r, c)).append(' ');
            }
        }
        for (int s = 0; s < x.about(2); s++) {
            all.append("s");
            for (int w = 0; w <= 3; w++) {
                all.append(x.span(s, w)).append(' ');
            }
        }
        all.append("n");
        for (int n = 1; n <= 6; n++) {
            all.append(x.note(n)).append(' ');
        }
        return all.toString();
    }
}
