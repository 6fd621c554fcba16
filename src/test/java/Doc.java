import java.io.IOException;
import java.nio.file.Files;
import java.nio.file.Path;
import java.util.ArrayList;
import java.util.List;

/** The document, to see whether what a test quotes stands in it, and what no test quotes. */
final class Doc {
    private static final Path PLACE = Path.of("../shared/DOC.md");

    private static final class Part {
        String heading;
        /** A paragraph or an item of a list each, in one line. */
        final List<String> paragraphs = new ArrayList<>();
        final List<boolean[]> quoted = new ArrayList<>();

        void add(String line, boolean joins) {
            String plain = line.replace("`", "").replaceFirst("^- ", "").trim();
            if (joins) {
                plain = paragraphs.remove(paragraphs.size() - 1) + " " + plain;
            }
            paragraphs.add(plain);
        }

        boolean quote(String sentence) {
            boolean found = false;
            for (int i = 0; i < paragraphs.size(); i++) {
                int at = paragraphs.get(i).indexOf(sentence);
                while (at >= 0) {
                    found = true;
                    for (int k = at; k < at + sentence.length(); k++) {
                        quoted.get(i)[k] = true;
                    }
                    at = paragraphs.get(i).indexOf(sentence, at + 1);
                }
            }
            return found;
        }
    }

    private final List<Part> parts = new ArrayList<>();

    Doc() {
        List<String> lines = List.of();
        try {
            lines = Files.readAllLines(PLACE);
        } catch (IOException e) {
            System.out.println(PLACE + " can't be read: what the tests quote is not compared with it");
        }
        boolean joins = false;
        for (String line : lines) {
            if (line.startsWith("## ")) {
                Part part = new Part();
                part.heading = line.substring(3);
                parts.add(part);
                joins = false;
            } else if (line.isBlank()) {
                joins = false;
            } else if (!parts.isEmpty()) {
                parts.get(parts.size() - 1).add(line, joins && !line.startsWith("- "));
                joins = true;
            }
        }
        for (Part part : parts) {
            for (String paragraph : part.paragraphs) {
                part.quoted.add(new boolean[paragraph.length()]);
            }
        }
    }

    boolean isThere() {
        return !parts.isEmpty();
    }

    /** Whether the sentence stands in the promise's own section, or else in another one that is no promise's. */
    boolean quote(int promise, String sentence) {
        String plain = sentence.replace("`", "");
        for (Part part : parts) {
            if (part.heading.startsWith("Promise " + promise + ":") && part.quote(plain)) {
                return true;
            }
        }
        for (Part part : parts) {
            if (!part.heading.startsWith("Promise ") && part.quote(plain)) {
                return true;
            }
        }
        return false;
    }

    /** The sentences of the terms and the promises, or what stands between semicolons, of which no word is quoted. */
    List<String> unquoted() {
        List<String> left = new ArrayList<>();
        for (Part part : parts) {
            if (!part.heading.startsWith("Promise ") && !part.heading.equals("Terms")) {
                continue;
            }
            for (int i = 0; i < part.paragraphs.size(); i++) {
                addUnquoted(part, i, left);
            }
        }
        return left;
    }

    private static void addUnquoted(Part part, int paragraph, List<String> left) {
        String text = part.paragraphs.get(paragraph);
        int begin = 0;
        for (int end = 1; end <= text.length(); end++) {
            boolean ends = end == text.length() || text.charAt(end) == ' ' && ".;".indexOf(text.charAt(end - 1)) >= 0;
            if (ends) {
                if (!anyOf(part.quoted.get(paragraph), begin, end)) {
                    left.add(part.heading + ": " + text.substring(begin, end));
                }
                begin = end + 1;
            }
        }
    }

    private static boolean anyOf(boolean[] marks, int begin, int end) {
        for (int k = begin; k < end; k++) {
            if (marks[k]) {
                return true;
            }
        }
        return false;
    }
}
