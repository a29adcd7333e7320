import java.io.IOException;
import java.nio.file.Files;
import java.nio.file.Path;
import java.util.Arrays;
import java.util.LinkedHashMap;
import java.util.Map;
import java.util.function.Consumer;
import java.util.regex.Matcher;
import java.util.regex.Pattern;

/**
 * Tests of single sentences: each test quotes the sentence of the document that it is for. A quote has to stand in the
 * document, and at the end no sentence of the document may be left that nobody quoted.
 */
final class Sentences {
    private static final Path DOCUMENT = Path.of("../shared/DOC.md");
    /** Between what only tells the place of a quote, and the quote itself. */
    private static final String THEN = " .. ";
    private static final String PARAGRAPH = "|";
    private static final Pattern BETWEEN = Pattern.compile("(?<=[;.:]) (\\| )*| \\| ");
    private static final String EXAMPLES = "Examples: Each of them begins with a new object";

    private final Due due = new Due("SentencesTest");
    private final Map<String, String> texts = new LinkedHashMap<>();
    private final Map<String, boolean[]> quoted = new LinkedHashMap<>();
    private String section = "";
    private int tests;

    Sentences() throws IOException {
        for (String part : Files.readString(DOCUMENT).split("(?m)^## ")) {
            if (part.startsWith("Promise ")) {
                keep(part.substring(0, part.indexOf(':')), part.substring(part.indexOf('\n')));
            } else if (part.startsWith("Description\n")) {
                keepDescription(part.substring(0, part.indexOf(EXAMPLES)));
            }
        }
    }

    private void keepDescription(String description) {
        String[] parts = description.split("(?m)^(?=[A-Z][A-Z ]+$)");
        for (int i = 1; i < parts.length; i++) {
            int end = parts[i].indexOf('\n');
            keep(parts[i].substring(0, end), parts[i].substring(end));
        }
    }

    /** Without the signature, the names of the groups and the line breaks; a sign stands between two paragraphs. */
    private void keep(String name, String text) {
        String plain = text.replaceAll("(?m)^(----.*|`.*\\)`)$", "").trim();
        plain = plain.replaceAll("\\n\\s*\\n|\\n(?=- |\\d\\. )", " " + PARAGRAPH + " ").replaceAll("\\s+", " ");
        texts.put(name, plain);
        quoted.put(name, new boolean[plain.length()]);
    }

    /** Says of which section the following sentences are. */
    void in(String name) {
        section = name;
        due.promise(name);
        due.is("a section of the document", texts.containsKey(name) ? 1 : 0, 1);
    }

    /** A sentence, and the test that fails if it is broken. */
    void holds(String sentence, Consumer<Due> test) {
        mark(sentence);
        tests++;
        int before = due.checks();
        due.promise(section + ", \"" + sentence + "\"");
        test.accept(due);
        due.promise(section + ", \"" + sentence + "\"");
        due.is("checks were made", due.checks() > before ? 1 : 0, 1);
    }

    /** Sentences that say nothing beside what the tests of the sentences next to them look at. */
    void said(String... sentences) {
        for (String sentence : sentences) {
            mark(sentence);
        }
    }

    private void mark(String sentence) {
        String text = texts.getOrDefault(section, "");
        int from = 0;
        String last = "";
        for (String part : sentence.split(Pattern.quote(THEN))) {
            int place = text.indexOf(part, from + last.length());
            due.promise(section);
            due.is("the document says \"" + part + "\"", place >= 0 ? 1 : 0, 1);
            if (place < 0) {
                return;
            }
            from = place;
            last = part;
        }
        Arrays.fill(quoted.get(section), from, from + last.length(), true);
    }

    void end() {
        for (Map.Entry<String, String> entry : texts.entrySet()) {
            due.promise(entry.getKey());
            int from = 0;
            Matcher between = BETWEEN.matcher(entry.getValue());
            while (between.find()) {
                lookAt(entry.getKey(), from, between.start());
                from = between.end();
            }
            lookAt(entry.getKey(), from, entry.getValue().length());
        }
        System.out.println("SentencesTest: " + tests + " sentences");
        due.end();
    }

    private void lookAt(String name, int from, int to) {
        String clause = texts.get(name).substring(from, to);
        boolean[] marks = quoted.get(name);
        int signs = 0;
        for (int i = from; i < to; i++) {
            if (marks[i]) {
                signs++;
            }
        }
        boolean isName = clause.matches("- .*:|\\d\\.|\\w+:");
        // a few signs may be missing at the ends: a bracket, a dash, the stop
        due.is("a test quotes \"" + clause + "\"", isName || signs * 2 > clause.length() ? 1 : 0, 1);
    }
}
