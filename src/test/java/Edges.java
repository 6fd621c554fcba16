import java.util.List;
import java.util.Set;
import java.util.TreeSet;
import java.util.regex.Pattern;

/**
 * Tests of single sentences of the document. Each is told by the number of its promise, the sentence, and a run of
 * calls, a call a line:
 *
 * <pre>
 * new                       a new object (each test begins with one, too)
 * type T1200r1+00           append, for each of the characters
 * type T1200{24 r1+00}      the same, with 24 times r1+00
 * text T5 = 1               a new object, type, and errorPosition() = 1; then load(), which must be refused unless
 *                           NONE is due
 * addRow(1, 0)              a call that must not be refused; its answer is another test's
 * 24 * addRow(1, 0)         the same 24 times
 * addRow(1, 0) = 3          a call and the answer that is due (NONE is -999999)
 * still about(5) = 1        the same, and the call changes nothing
 * addRow(7, 0) ! argument   a call that is refused by an IllegalArgumentException, and changes nothing;
 *                           ! index is an IndexOutOfBoundsException, ! state an IllegalStateException
 * # why                     a comment
 * </pre>
 *
 * That a call changes nothing is seen by all the views of two objects: one on which it was made and one on which it
 * was not.
 */
final class Edges {
    private static final Pattern REPEATED = Pattern.compile("\\{(\\d+) ([^}]*)\\}");
    private final Check check;
    private final Doc doc = new Doc();
    private final Set<String> names = new TreeSet<>();
    private String name;
    private Run run;
    /** What can be seen of the run, as long as no call is made that may change it. */
    private List<String> seen;

    Edges(Check check) {
        this.check = check;
    }

    void of(int promise, String sentence, String calls) {
        name = "promise " + promise + ", \"" + sentence + "\"";
        if (doc.isThere() && !doc.quote(promise, sentence)) {
            check.tell(name + ": the document does not say so");
        }
        if (!names.add(name)) {
            check.tell(name + " has two tests");
        }
        begin();
        for (String line : calls.split("\n")) {
            String call = line.trim();
            if (!call.isEmpty() && !call.startsWith("#")) {
                read(call);
            }
        }
    }

    /** No sentence may be left without a test but those that name nothing that could be tested. */
    void finish(Set<String> untested) {
        for (String sentence : doc.unquoted()) {
            if (!untested.contains(sentence)) {
                check.tell("no test quotes " + sentence);
            }
        }
    }

    private void begin() {
        run = new Run();
        seen = null;
    }

    private void read(String line) {
        if (line.equals("new")) {
            begin();
        } else if (line.startsWith("type ")) {
            type(line.substring(5));
        } else if (line.startsWith("text ")) {
            text(line.substring(5));
        } else if (line.contains(" * ")) {
            repeat(line);
        } else if (line.startsWith("still ")) {
            answers(line.substring(6), true);
        } else if (line.contains(" ! ")) {
            refuses(line);
        } else {
            answers(line, false);
        }
    }

    private void type(String told) {
        String text = REPEATED.matcher(told).replaceAll(m -> m.group(2).repeat(Integer.parseInt(m.group(1))));
        for (int i = 0; i < text.length(); i++) {
            answers("append(" + (int) text.charAt(i) + ")", false);
        }
    }

    private void text(String line) {
        int sign = line.indexOf("= ");
        begin();
        type(line.substring(0, sign).trim());
        answers("errorPosition() " + line.substring(sign), true);
        if (line.endsWith("NONE")) {
            answers("load()", false);
        } else {
            refuses("load() ! state");
        }
    }

    private void repeat(String line) {
        int star = line.indexOf(" * ");
        int times = Integer.parseInt(line.substring(0, star));
        for (int i = 0; i < times; i++) {
            answers(line.substring(star + 3), false);
        }
    }

    private void answers(String line, boolean changesNothing) {
        int sign = line.indexOf(" = ");
        ToldCall call = new ToldCall(sign < 0 ? line : line.substring(0, sign).trim());
        if (changesNothing) {
            changesNothing(call);
        }
        String got = run.answer(call);
        seen = changesNothing ? seen : null;
        if (sign < 0 && got.startsWith("throws.")) {
            check.tell(name + ": " + call + " answered " + got);
        }
        if (sign >= 0) {
            String due = line.substring(sign + 3).trim().replace("NONE", "-999999");
            check.sameOutcome(name + ": " + call, got, due);
        }
    }

    private void refuses(String line) {
        int sign = line.indexOf(" ! ");
        ToldCall call = new ToldCall(line.substring(0, sign).trim());
        check.sameOutcome(name + ": " + call, run.answer(call), "throws." + exception(line.substring(sign + 3).trim()));
        changesNothing(call);
    }

    private static String exception(String kind) {
        switch (kind) {
            case "index": return "IndexOutOfBoundsException";
            case "argument": return "IllegalArgumentException";
            case "state": return "IllegalStateException";
            default: throw new AssertionError("there is no such exception: " + kind);
        }
    }

    private void changesNothing(ToldCall call) {
        if (seen == null) {
            seen = Views.of(run, null);
        }
        List<String> then = Views.of(run, call);
        for (int i = 0; i < seen.size() && i < then.size(); i++) {
            if (!seen.get(i).equals(then.get(i))) {
                check.tell(name + ": " + call + " changes " + seen.get(i) + " to " + then.get(i));
                return;
            }
        }
        if (seen.size() != then.size()) {
            check.tell(name + ": " + call + " changes how many states are remembered");
        }
    }
}
