import java.io.PrintWriter;
import java.io.StringWriter;
import java.nio.file.Files;
import java.nio.file.Path;
import java.util.ArrayList;
import java.util.HashMap;
import java.util.List;
import java.util.Map;
import java.util.Optional;
import java.util.Set;
import java.util.TreeSet;
import java.util.regex.Matcher;
import java.util.regex.Pattern;
import java.util.spi.ToolProvider;

/** The rules of LANGUAGE.md that the compiled class shows: what calls what, and how long a method is. */
public final class CallsTest {
    private static final Set<String> LIBRARY = Set.of("java/lang/Object.\"<init>\":()V", "java/lang/Math.floorMod:(II)I",
            "java/lang/Math.max:(II)I", "java/lang/Math.min:(II)I", "java/util/Arrays.fill:([II)V",
            "java/lang/System.arraycopy:(Ljava/lang/Object;ILjava/lang/Object;II)V");
    private static final Pattern CLASS = Pattern.compile(".*\\bclass (\\S+) \\{");
    private static final Pattern METHOD = Pattern.compile("  (?:[\\w$.\\[\\]]+ )*([\\w$]+)\\((.*)\\);");
    private static final Pattern CALL = Pattern.compile(".*\\binvoke(\\w+) .*// (?:Interface)?Method (\\S+)");
    private static final int MOST_DEEP = 8;
    private static final int LONGEST = 60;
    private static final Due due = new Due("CallsTest");

    /** By the class, the name and the number of parameters of a method: what it calls. */
    private final Map<String, Set<String>> calls = new HashMap<>();
    private final Map<String, Integer> depths = new HashMap<>();

    public static void main(String[] args) throws Exception {
        new CallsTest().compiled();
        due.promise("LANGUAGE.md 11");
        lengths();
        due.end();
    }

    private void compiled() throws Exception {
        Optional<ToolProvider> javap = ToolProvider.findFirst("javap");
        if (javap.isEmpty()) {
            System.out.println("CallsTest: this machine cannot list compiled classes");
            return;
        }
        List<String> arguments = new ArrayList<>(List.of("-c", "-p"));
        Path classes = Path.of(RetryChains.class.getProtectionDomain().getCodeSource().getLocation().toURI());
        try (var files = Files.list(classes)) {
            files.map(Path::toString).filter(file -> file.matches(".*[/\\\\]RetryChains(\\$\\w+)?\\.class"))
                    .forEach(arguments::add);
        }
        StringWriter listed = new StringWriter();
        PrintWriter out = new PrintWriter(listed);
        javap.get().run(out, out, arguments.toArray(new String[0]));
        out.flush();
        read(listed.toString());
        due.promise("LANGUAGE.md 8, 11");
        due.is("methods were read", calls.size() > 100 ? 1 : 0, 1);
        for (String method : calls.keySet()) {
            int depth = depth(method, new TreeSet<>());
            due.is(method + " calls " + depth + " deep", depth <= MOST_DEEP ? 1 : 0, 1);
        }
    }

    private void read(String listed) {
        due.promise("LANGUAGE.md 4, 6");
        String type = "";
        Set<String> called = new TreeSet<>();
        for (String line : listed.split("\\R")) {
            Matcher matcher = CLASS.matcher(line);
            if (matcher.matches()) {
                type = matcher.group(1);
            }
            matcher = METHOD.matcher(line);
            if (matcher.matches()) {
                called = calls.computeIfAbsent(key(type, matcher.group(1), commas(matcher.group(2))), key -> new TreeSet<>());
            }
            matcher = CALL.matcher(line);
            if (matcher.matches()) {
                due.is(line, matcher.group(1).equals("dynamic") ? 1 : 0, 0);
                add(called, type, matcher.group(2));
            }
            due.is(line, line.matches(" *\\d+: (athrow|checkcast|instanceof|monitorenter|invokedynamic)\\b.*") ? 1 : 0, 0);
        }
    }

    private static void add(Set<String> called, String type, String target) {
        if (target.startsWith("java/")) {
            due.is("a function of the library: " + target, LIBRARY.contains(target) ? 1 : 0, 1);
            return;
        }
        String name = target.substring(0, target.indexOf(':')).replace("\"", "");
        int dot = name.indexOf('.');
        String owner = dot < 0 ? type : name.substring(0, dot);
        String plain = name.substring(dot + 1);
        String types = target.substring(target.indexOf('(') + 1, target.indexOf(')'));
        int parameters = types.replaceAll("\\[*(L[^;]*;|[IJZBCSDF])", "x").length();
        called.add(key(owner, plain.equals("<init>") ? owner : plain, parameters));
    }

    private static int commas(String parameters) {
        return parameters.isEmpty() ? 0 : parameters.split(",").length;
    }

    private static String key(String type, String name, int parameters) {
        return type + "." + name + "/" + parameters;
    }

    private int depth(String method, Set<String> above) {
        if (depths.containsKey(method)) {
            return depths.get(method);
        }
        due.is("a call of a method that was read: " + method, calls.containsKey(method) ? 1 : 0, 1);
        if (!above.add(method)) {
            due.is("recursion of " + method, 1, 0);
            return MOST_DEEP + 1;
        }
        int deepest = 0;
        for (String called : calls.getOrDefault(method, Set.of())) {
            deepest = Math.max(deepest, depth(called, above));
        }
        above.remove(method);
        depths.put(method, deepest + 1);
        return deepest + 1;
    }

    private static void lengths() throws Exception {
        String source = Files.readString(Path.of("src/main/java/RetryChains.java"));
        Matcher method = Pattern.compile("(?m)^( {4,8})(?! )[^\\n;=]*\\) \\{\\n(?s)(.*?)\\n\\1\\}").matcher(source);
        int methods = 0;
        while (method.find()) {
            int lines = method.group().split("\n").length;
            String head = method.group().substring(0, method.group().indexOf('\n')).trim();
            due.is(head + " has " + lines + " lines", lines <= LONGEST ? 1 : 0, 1);
            methods++;
        }
        due.is("methods were found", methods > 100 ? 1 : 0, 1);
    }
}
