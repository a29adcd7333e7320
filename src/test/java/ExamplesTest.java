import java.nio.file.Files;
import java.nio.file.Path;
import java.util.regex.Matcher;
import java.util.regex.Pattern;

/** The four examples of the document, as they stand in it. */
public final class ExamplesTest {
    private static final Path DOCUMENT = Path.of("../shared/DOC.md");
    private static final Pattern EXAMPLE = Pattern.compile("(?m)^(\\d)\\. [^:\n]*: (\\w+\\(.*)$");
    private static final Pattern CALL = Pattern.compile("(\\w+)\\(([^)]*)\\) = (-?\\d+)[;.]");
    private static final Due due = new Due("ExamplesTest");

    public static void main(String[] args) throws Exception {
        asTheDocumentHasThem();
        constants();
        due.end();
    }

    private static void asTheDocumentHasThem() throws Exception {
        String document = Files.readString(DOCUMENT);
        Matcher example = EXAMPLE.matcher(document.substring(document.indexOf("\nExamples:")));
        int examples = 0;
        int calls = 0;
        while (example.find()) {
            due.promise("example " + example.group(1) + ", as it stands");
            examples++;
            RetryChains x = new RetryChains();
            Matcher call = CALL.matcher(example.group(2));
            while (call.find()) {
                due.is(call.group(), Asked.answer(x, call.group(1), call.group(2)), Long.parseLong(call.group(3)));
                calls++;
            }
        }
        due.promise("the examples");
        due.is("examples", examples, 4);
        due.is("calls in all", calls, 59);
    }

    private static void constants() {
        due.promise("the public face");
        due.is("BAD", RetryChains.BAD, -1);
        due.is("STATE", RetryChains.STATE, -2);
        due.is("FULL", RetryChains.FULL, -3);
        due.is("OVERFLOW", RetryChains.OVERFLOW, -4);
        due.is("NONE", RetryChains.NONE, -9);
    }
}
