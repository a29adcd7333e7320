import java.io.IOException;
import java.lang.reflect.Method;
import java.lang.reflect.Modifier;
import java.nio.file.Files;
import java.nio.file.Path;
import java.util.Set;
import java.util.TreeSet;
import java.util.regex.Matcher;
import java.util.regex.Pattern;

/** What README.md tells: the answers behind its calls, the methods that there are, and its list of tests. */
public final class ReadmeTest {
    private static final Pattern BLOCK = Pattern.compile("(?s)```java\n(.*?)```");
    private static final Pattern CALL = Pattern.compile("x\\.(\\w+)\\(([^)]*)\\); +// (-?\\d+)(:.*)?");
    private static final String NEW_OBJECT = "RetryChains x = new RetryChains();";
    private static final Due due = new Due("ReadmeTest");

    public static void main(String[] args) throws Exception {
        String readme = Files.readString(Path.of("README.md"));
        due.promise("README.md, use");
        examples(readme);
        due.promise("README.md, methods");
        methods(readme);
        due.promise("README.md, tests");
        tests(readme);
        due.end();
    }

    private static void examples(String readme) throws ReflectiveOperationException {
        RetryChains x = null;
        int calls = 0;
        Matcher block = BLOCK.matcher(readme);
        while (block.find()) {
            for (String line : block.group(1).split("\n")) {
                Matcher call = CALL.matcher(line);
                if (line.equals(NEW_OBJECT)) {
                    x = new RetryChains();
                } else if (call.matches()) {
                    due.is(line, Asked.answer(x, call.group(1), call.group(2)), Long.parseLong(call.group(3)));
                    calls++;
                } else {
                    due.is("a call with its answer: " + line, 0, 1);
                }
            }
        }
        due.is("there are calls", calls > 40 ? 1 : 0, 1);
    }

    private static void methods(String readme) {
        for (Method method : RetryChains.class.getDeclaredMethods()) {
            if (Modifier.isPublic(method.getModifiers())) {
                due.is(method.getName() + " is named", readme.contains("`" + method.getName() + "`") ? 1 : 0, 1);
            }
        }
    }

    private static void tests(String readme) throws IOException {
        Set<String> told = new TreeSet<>();
        Matcher row = Pattern.compile("(?m)^\\| `(\\w+Test)` \\|").matcher(readme);
        while (row.find()) {
            told.add(row.group(1));
        }
        Set<String> there = new TreeSet<>();
        try (var files = Files.list(Path.of("src/test/java"))) {
            files.map(file -> file.getFileName().toString()).filter(name -> name.endsWith("Test.java"))
                    .forEach(name -> there.add(name.substring(0, name.length() - ".java".length())));
        }
        due.is("tests " + told + " of " + there, told.equals(there) ? 1 : 0, 1);
        due.is("how to run them", readme.contains("    .ci/run\n") ? 1 : 0, 1);
    }
}
