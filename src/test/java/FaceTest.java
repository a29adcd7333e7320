import java.io.IOException;
import java.lang.reflect.Constructor;
import java.lang.reflect.Executable;
import java.lang.reflect.Field;
import java.lang.reflect.Member;
import java.lang.reflect.Method;
import java.lang.reflect.Modifier;
import java.nio.file.Files;
import java.nio.file.Path;
import java.util.ArrayList;
import java.util.Arrays;
import java.util.List;
import java.util.Set;
import java.util.TreeSet;
import java.util.regex.Matcher;
import java.util.regex.Pattern;

/** The public face of the document, and those rules of LANGUAGE.md that can be seen from outside. */
public final class FaceTest {
    private static final Path SOURCE = Path.of("src/main/java/RetryChains.java");
    private static final String FACE = "addRate(int,int) addStation() allow(int,int,boolean) setShare(int) setWeight(int) "
            + "setInterval(int) setBudget(int) lay(int,int) enqueue(int,int) dispatch() report(int,int,boolean) pass(int) "
            + "update(int) kind(int) stationOf(int) entryRate(int,int) entryTries(int,int) tag(int) deliveryChance(int) "
            + "expectedTime(int) estimate(int,int) triesOf(int,int) successesOf(int,int) airTime(int,int) "
            + "throughput(int,int,int) role(int,int) refusal(int,int) rateOfMode(int,int) bestOfMode(int,int) mostUsed(int) "
            + "bestChain(int,int,int) chains(int) sampled(int) delivered(int) lost(int) queued(int) deficit(int) "
            + "inFallback(int) time() setQuality(int,int,int) simulate(int,int,int,int) forecast(int,int,int,int) "
            + "oracle(int,int) events() eventKind(int) eventStation(int) eventRate(int) eventTime(int) save(int) restore(int) "
            + "undo() digest()";
    private static final Due due = new Due("FaceTest");

    public static void main(String[] args) throws IOException {
        due.promise("the public face");
        face();
        due.promise("LANGUAGE.md 1, 2");
        classes();
        due.promise("LANGUAGE.md 5, 11");
        fieldsAndParameters();
        due.promise("LANGUAGE.md 4, 6");
        words();
        due.end();
    }

    private static void none(String what, Object found) {
        String text = String.valueOf(found);
        due.is(what + " " + text, text.equals("[]") ? 0 : 1, 0);
    }

    private static String told(Executable executable) {
        StringBuilder types = new StringBuilder();
        for (Class<?> type : executable.getParameterTypes()) {
            types.append(types.length() == 0 ? "" : ",").append(type.getSimpleName());
        }
        return executable.getName() + "(" + types + ")";
    }

    private static void face() {
        Set<String> found = new TreeSet<>();
        for (Method method : RetryChains.class.getDeclaredMethods()) {
            if (!Modifier.isPrivate(method.getModifiers()) && !method.isSynthetic()) {
                found.add(told(method));
                Class<?> type = method.getName().equals("digest") ? long.class : int.class;
                due.is(told(method) + " " + method.getReturnType(), method.getReturnType() == type ? 1 : 0, 1);
                due.is(told(method) + " is public", method.getModifiers(), Modifier.PUBLIC);
            }
        }
        Set<String> wanted = new TreeSet<>(Arrays.asList(FACE.split(" ")));
        due.is("52 methods", wanted.size(), 52);
        Set<String> missing = new TreeSet<>(wanted);
        missing.removeAll(found);
        none("missing", missing);
        found.removeAll(wanted);
        none("not of the face", found);
        Set<String> constants = new TreeSet<>();
        for (Field field : RetryChains.class.getDeclaredFields()) {
            if (!Modifier.isPrivate(field.getModifiers())) {
                constants.add(field.getName());
            }
        }
        due.is("constants " + constants, constants.equals(Set.of("BAD", "STATE", "FULL", "OVERFLOW", "NONE")) ? 1 : 0, 1);
        Constructor<?>[] constructors = RetryChains.class.getDeclaredConstructors();
        due.is("constructors", constructors.length, 1);
        due.is("parameters of the constructor", constructors[0].getParameterCount(), 0);
        due.is("the constructor is public", constructors[0].getModifiers(), Modifier.PUBLIC);
        due.is("the class is public and final", RetryChains.class.getModifiers(), Modifier.PUBLIC | Modifier.FINAL);
    }

    private static List<Class<?>> allClasses() {
        List<Class<?>> all = new ArrayList<>();
        all.add(RetryChains.class);
        all.addAll(Arrays.asList(RetryChains.class.getDeclaredClasses()));
        return all;
    }

    private static void classes() {
        Set<String> names = new TreeSet<>();
        for (String method : FACE.split(" ")) {
            names.add(method.substring(0, method.indexOf('(')));
        }
        due.is("at most 12 classes", allClasses().size() <= 12 ? 1 : 0, 1);
        for (Class<?> type : allClasses()) {
            if (type != RetryChains.class) {
                due.is(type + " is static", type.getModifiers() & Modifier.STATIC, Modifier.STATIC);
                due.is(type + " is not public or protected",
                        type.getModifiers() & (Modifier.PUBLIC | Modifier.PROTECTED), 0);
                none("classes inside " + type, Arrays.toString(type.getDeclaredClasses()));
            }
            for (Method method : type.getDeclaredMethods()) {
                boolean isOfFace = type == RetryChains.class && Modifier.isPublic(method.getModifiers());
                due.is(type + " has the public name " + method.getName(),
                        !isOfFace && names.contains(method.getName()) ? 1 : 0, 0);
                due.is(type + " has " + method.getName(),
                        Set.of("equals", "hashCode", "toString").contains(method.getName()) ? 1 : 0, 0);
            }
        }
    }

    private static void fieldsAndParameters() {
        for (Class<?> type : allClasses()) {
            int own = 0;
            for (Field field : type.getDeclaredFields()) {
                boolean isStatic = isStatic(field);
                own += isStatic ? 0 : 1;
                due.is(field + " is final", isStatic && !Modifier.isFinal(field.getModifiers()) ? 1 : 0, 0);
                due.is(field + " is a constant of a plain type", isStatic && !field.getType().isPrimitive() ? 1 : 0, 0);
            }
            due.is(type + " has at most 20 fields", own <= 20 ? 1 : 0, 1);
            for (Method method : type.getDeclaredMethods()) {
                due.is(method + " has at most 7 parameters", method.getParameterCount() <= 7 ? 1 : 0, 1);
            }
        }
    }

    private static boolean isStatic(Member member) {
        return Modifier.isStatic(member.getModifiers());
    }

    private static void words() throws IOException {
        String source = Files.readString(SOURCE);
        String code = source.replaceAll("(?s)/\\*.*?\\*/", "").replaceAll("//[^\n]*", "");
        for (String word : List.of("throw", "throws", "try", "catch", "synchronized", "assert", "instanceof", "Object",
                "Thread", "Random", "package", "protected", "volatile", "native", "hashCode", "equals", "System.out",
                "nanoTime", "currentTimeMillis")) {
            due.is("the word " + word, Pattern.compile("\\b" + word + "\\b").matcher(code).find() ? 1 : 0, 0);
        }
        due.is("a lambda or a method reference", code.contains("->") || code.contains("::") ? 1 : 0, 0);
        due.is("a text joined by +", code.contains("\"") ? 1 : 0, 0);
        due.is("signs 1 to 127", source.chars().allMatch(c -> c < 128) ? 1 : 0, 1);
        Set<String> imports = new TreeSet<>();
        Matcher matcher = Pattern.compile("import ([\\w.]+);").matcher(code);
        while (matcher.find()) {
            imports.add(matcher.group(1));
        }
        due.is("imports " + imports, Set.of("java.util.Arrays").containsAll(imports) ? 1 : 0, 1);
        Set<String> calls = new TreeSet<>();
        matcher = Pattern.compile("\\b(Arrays|Math|System|Integer|Long)\\.(\\w+)").matcher(code);
        while (matcher.find()) {
            calls.add(matcher.group());
        }
        calls.removeAll(Set.of("Arrays.fill", "Math.max", "Math.min", "Math.floorMod", "System.arraycopy"));
        none("calls of the library", calls);
    }
}
