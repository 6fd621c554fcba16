import java.util.ArrayList;
import java.util.List;

/** A new object and the calls made on it. They are counted: behind the 512th call the document promises nothing. */
final class Run {
    private static final int MOST_CALLS = 512;
    private final TablePager x = new TablePager();
    private final List<ToldCall> answered = new ArrayList<>();
    private int calls;

    String answer(ToldCall call) {
        count();
        String answer = call.answerOf(x);
        if (!answer.startsWith("throws.")) {
            answered.add(call);
        }
        return answer;
    }

    /** The object itself, for a call that is not told as a text. */
    TablePager object() {
        count();
        return x;
    }

    private void count() {
        calls++;
        if (calls > MOST_CALLS) {
            throw new AssertionError("a run goes beyond " + MOST_CALLS + " calls");
        }
    }

    /** Another object in the same state, which has never been asked for what was refused. */
    Run again() {
        Run run = new Run();
        for (ToldCall call : answered) {
            run.answer(call);
        }
        return run;
    }
}
