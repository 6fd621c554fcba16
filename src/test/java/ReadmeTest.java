import java.io.IOException;
import java.nio.file.Files;
import java.nio.file.Path;
import java.util.HashMap;
import java.util.HashSet;
import java.util.Map;
import java.util.Set;
import java.util.regex.Matcher;
import java.util.regex.Pattern;

/** README.md shows calls with their answers: each is made, and every method is shown. */
public final class ReadmeTest {
    private static final Pattern MADE = Pattern.compile("    TablePager (\\w+) = new TablePager\\(\\);");
    private static final Pattern TEXT = Pattern.compile("    String text = \"(.*)\";");
    private static final Pattern TYPED = Pattern.compile("        (\\w+)\\.append\\(text\\.charAt\\(i\\)\\);");
    private static final Pattern CALL = Pattern.compile("    (\\w+)\\.((\\w+)\\(.*\\)); +// ((throws )?[-\\w]+).*");

    private final Check check = new Check("ReadmeTest");
    private final Map<String, TablePager> objects = new HashMap<>();
    private final Set<String> shown = new HashSet<>();
    private String text = "";

    public static void main(String[] args) throws IOException {
        ReadmeTest test = new ReadmeTest();
        for (String line : Files.readAllLines(Path.of("README.md"))) {
            test.read(line);
        }
        for (String name : ToldCall.names()) {
            if (!test.shown.contains(name)) {
                test.check.tell("README.md shows no call of " + name);
            }
        }
        test.check.finish();
    }

    private void read(String line) {
        Matcher made = MADE.matcher(line);
        Matcher told = TEXT.matcher(line);
        Matcher typed = TYPED.matcher(line);
        Matcher call = CALL.matcher(line);
        if (made.matches()) {
            objects.put(made.group(1), new TablePager());
        } else if (told.matches()) {
            text = told.group(1);
        } else if (typed.matches()) {
            Check.type(objects.get(typed.group(1)), text);
        } else if (call.matches()) {
            answers(objects.get(call.group(1)), call.group(2), call.group(4));
            shown.add(call.group(3));
        } else if (line.startsWith("    ") && line.contains("//")) {
            check.tell("README.md: this is no call with an answer: " + line);
        }
    }

    private void answers(TablePager x, String call, String answer) {
        String due = answer.replace("NONE", "-999999").replace("throws ", "throws.");
        String plain = call.replaceAll("(\\d)L\\b", "$1").replace("'x'", String.valueOf((int) 'x'));
        check.sameOutcome("README.md: " + call, new ToldCall(plain).answerOf(x), due);
    }
}
