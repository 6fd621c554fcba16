import java.util.ArrayList;
import java.util.List;

/**
 * All that can be told apart of an object, also what only shows behind further calls: the text, the remembered
 * states and the save slots. Each view takes an object of its own, since looking changes it.
 */
final class Views {
    private final Run run;
    private final ToldCall last;

    private Views(Run run, ToldCall last) {
        this.run = run;
        this.last = last;
    }

    /** The views of an object on which the calls of the run were made, and then the last one, if there is one. */
    static List<String> of(Run run, ToldCall last) {
        Views views = new Views(run, last);
        List<String> all = new ArrayList<>();
        all.add("the table: " + table(views.begin()));
        all.add("the pages: " + pages(views.begin()));
        all.add("what would be: " + wouldBe(views.begin()));
        all.add("the text: " + text(views.begin()));
        all.add("slot 0: " + slot(views.begin(), 0));
        all.add("slot 1: " + slot(views.begin(), 1));
        boolean more = true;
        for (int steps = 1; more; steps++) {
            String undone = undone(views.begin(), steps);
            all.add(steps + " times undo: " + undone);
            more = !undone.isEmpty();
        }
        return all;
    }

    private Run begin() {
        Run r = run.again();
        if (last != null) {
            r.answer(last);
        }
        return r;
    }

    private static String table(Run r) {
        StringBuilder all = new StringBuilder();
        int columns = r.object().about(0);
        int rows = r.object().about(1);
        int spans = r.object().about(2);
        all.append(columns).append(' ').append(rows).append(' ').append(spans).append(' ');
        all.append(r.object().about(3)).append(' ').append(r.object().about(4)).append(" n");
        for (int n = 1; n <= 6; n++) {
            all.append(r.object().note(n)).append(' ');
        }
        for (int i = 0; i < rows; i++) {
            all.append('r');
            for (int what = 0; what <= 2; what++) {
                all.append(r.object().row(i, what)).append(' ');
            }
            for (int c = 0; c < columns; c++) {
                all.append(r.object().amount(i, c)).append(' ');
            }
        }
        for (int s = 0; s < spans; s++) {
            all.append('s');
            for (int what = 0; what <= 2; what++) {
                all.append(r.object().span(s, what)).append(' ');
            }
        }
        return all.toString();
    }

    private static String pages(Run r) {
        StringBuilder all = new StringBuilder();
        int columns = r.object().about(0);
        int pages = r.object().about(5);
        all.append(pages).append(' ').append(r.object().about(6)).append(' ').append(r.object().about(7)).append(' ');
        for (int p = 0; p < pages; p++) {
            all.append('p');
            for (int what = 1; what <= 5; what++) {
                all.append(r.object().page(p, what)).append(' ');
            }
            for (int c = 0; c < columns; c++) {
                all.append(r.object().carried(p, c)).append(' ');
            }
        }
        return all.toString();
    }

    private static String wouldBe(Run r) {
        StringBuilder all = new StringBuilder();
        all.append(r.object().heightFor(1)).append(' ').append(r.object().evenest()).append(' ');
        for (int i = 0; i < r.object().about(1); i++) {
            all.append(r.object().evenCut(i)).append(' ').append(r.object().emptyFrom(i)).append(' ');
        }
        return all.toString();
    }

    /** A text that is a table is loaded, so that all of its characters show. */
    private static String text(Run r) {
        int error = r.object().errorPosition();
        String loaded = "";
        if (error == TablePager.NONE) {
            loaded = r.object().load() + ": " + table(r);
        }
        return error + " " + loaded + " " + r.object().clearText();
    }

    private static String slot(Run r, int slot) {
        try {
            r.object().restore(slot);
        } catch (IllegalStateException e) {
            return "empty";
        }
        return table(r);
    }

    /** Nothing if so many states are not remembered. */
    private static String undone(Run r, int steps) {
        try {
            for (int i = 0; i < steps; i++) {
                r.object().undo();
            }
        } catch (IllegalStateException e) {
            return "";
        }
        return table(r);
    }
}
