import java.io.IOException;
import java.lang.reflect.Field;
import java.lang.reflect.Method;
import java.lang.reflect.Modifier;
import java.nio.file.Files;
import java.nio.file.Path;
import java.util.Arrays;
import java.util.List;
import java.util.Set;
import java.util.TreeSet;
import java.util.regex.Matcher;
import java.util.regex.Pattern;
import java.util.stream.Collectors;

/** The rules of ../shared/LANGUAGE.md that can be looked up, and the face that ../shared/DOC.md tells. */
public final class LanguageTest {
    private static final Path SOURCE = Path.of("src/main/java/LuggageBelt.java");
    private static final Path DOCUMENT = Path.of("../shared/DOC.md");
    private static final Set<Class<?>> FIELD_TYPES = Set.of(int.class, long.class, short.class, byte.class, char.class,
        boolean.class, int[].class, long[].class, char[].class, byte[].class, int[][].class, String.class);
    private static final Set<String> STATIC_TYPES = Set.of("int", "long", "boolean", "char", "String", "int[]", "long[]",
        "char[]", "byte[]");

    public static void main(String[] args) throws Exception {
        face();
        Class<?>[] inside = LuggageBelt.class.getDeclaredClasses();
        Due.holds("at most twelve classes", inside.length + 1 <= 12);
        Set<String> publicNames = names(LuggageBelt.class, true);
        members(LuggageBelt.class, publicNames);
        for (Class<?> one : inside) {
            Due.holds(one + " is static", Modifier.isStatic(one.getModifiers()));
            Due.holds(one + " is not public", !Modifier.isPublic(one.getModifiers()));
            members(one, publicNames);
        }
        words();
        lengths();
        chainsOfCalls();
        Due.end();
    }

    private static void face() throws IOException {
        Set<String> told = new TreeSet<>();
        Matcher m = Pattern.compile("    public (int|long) (\\w+)\\((.*)\\);").matcher(Files.readString(DOCUMENT));
        while (m.find()) {
            int parameters = m.group(3).isEmpty() ? 0 : m.group(3).split(",").length;
            told.add(m.group(1) + " " + m.group(2) + " " + parameters);
        }
        Set<String> there = new TreeSet<>();
        for (Method method : LuggageBelt.class.getDeclaredMethods()) {
            if (!Modifier.isPrivate(method.getModifiers())) {
                there.add(method.getReturnType() + " " + method.getName() + " " + method.getParameterCount());
            }
        }
        Due.due("methods told", told.size(), 40);
        Due.holds("the face is " + told + ", not " + there, told.equals(there));
        Due.due("constructors", LuggageBelt.class.getConstructors().length, 1);
        Due.holds("final", Modifier.isFinal(LuggageBelt.class.getModifiers()));
        for (Field field : LuggageBelt.class.getDeclaredFields()) {
            boolean told4 = List.of("NONE", "BAD", "STATE", "FULL").contains(field.getName());
            Due.holds(field + " is seen or not", told4 == !Modifier.isPrivate(field.getModifiers()));
        }
    }

    private static Set<String> names(Class<?> one, boolean isPublic) {
        return Arrays.stream(one.getDeclaredMethods())
            .filter(m -> Modifier.isPublic(m.getModifiers()) == isPublic).map(Method::getName).collect(Collectors.toSet());
    }

    private static void members(Class<?> one, Set<String> publicNames) {
        int fields = 0;
        for (Field field : one.getDeclaredFields()) {
            boolean isOwn = field.getType().getEnclosingClass() == LuggageBelt.class;
            if (Modifier.isStatic(field.getModifiers())) {
                Due.holds(field + " is final", Modifier.isFinal(field.getModifiers()));
                Due.holds(field + " may be static", STATIC_TYPES.contains(field.getType().getSimpleName()));
            } else {
                fields++;
                Due.holds(field + " is of a type that is let", isOwn || FIELD_TYPES.contains(field.getType()));
            }
        }
        Due.holds(one + " has at most twenty fields", fields <= 20);
        Set<String> clash = names(one, false);
        clash.retainAll(publicNames);
        Due.holds(one + " has no method of a public name: " + clash, clash.isEmpty());
        for (Method method : one.getDeclaredMethods()) {
            Due.holds(method + " has at most seven parameters", method.getParameterCount() <= 7);
        }
    }

    private static String code() throws IOException {
        String text = Files.readString(SOURCE);
        text = text.replaceAll("(?s)/\\*.*?\\*/", "").replaceAll("//[^\n]*", "");
        return text.replaceAll("\"[^\"\n]*\"", "\"\"").replaceAll("'[^']'", "''");
    }

    private static void words() throws IOException {
        String code = code();
        for (String word : List.of("throw", "throws", "try", "catch", "finally", "synchronized", "assert", "package",
            "protected", "native", "volatile", "Random", "Thread", "Exception", "Object", "hashCode", "toString", "Exact")) {
            Due.holds("no " + word, !Pattern.compile("\\b" + word + "\\b").matcher(code).find());
        }
        Due.holds("no name that ends in Exact", !code.contains("Exact("));
        Due.holds("no lambda", !code.contains("->"));
        Due.holds("no method reference", !code.contains("::"));
        Matcher imports = Pattern.compile("import ([\\w.]+);").matcher(code);
        while (imports.find()) {
            Due.holds("no import of " + imports.group(1), imports.group(1).equals("java.util.Arrays"));
        }
        Matcher library = Pattern.compile("\\b(Math|Integer|Long|System|Arrays)\\.(\\w+)").matcher(code);
        while (library.find()) {
            boolean isLet = List.of("max", "min", "abs", "bitCount", "floorMod", "floorDiv", "arraycopy", "fill")
                .contains(library.group(2));
            Due.holds("no " + library.group(), isLet);
        }
        Due.holds("signs 1 to 127", Files.readString(SOURCE).chars().allMatch(c -> c > 0 && c < 128));
        // What is made, is made once: every new stands in a field or in a row of constants.
        for (String line : code.split("\n")) {
            Due.holds("made in a call: " + line, !line.contains(" new ") || line.contains(" final "));
        }
    }

    private static void lengths() throws IOException {
        Pattern head = Pattern.compile("^( {4}| {8})[a-z][\\w\\[\\] ]* \\w+\\([^;]*\\) \\{$");
        String[] lines = code().split("\n");
        int methods = 0;
        for (int i = 0; i < lines.length; i++) {
            Matcher m = head.matcher(lines[i]);
            if (m.matches()) {
                methods++;
                int end = i;
                while (end < lines.length && !lines[end].equals(m.group(1) + "}")) {
                    end++;
                }
                Due.holds("short: " + lines[i].trim(), end - i < 60);
            }
        }
        Due.holds("methods were found", methods > 80);
    }

    /** Rules 8 and 11: what calls itself is private, and calls go at most eight deep. */
    private static void chainsOfCalls() throws Exception {
        CallGraph graph = CallGraph.of(SOURCE);
        Due.holds("the methods are found: " + graph.size(), graph.size() > 100);
        Set<String> recursive = graph.recursive();
        for (String method : recursive) {
            Due.holds(method + " calls itself and is private", graph.isPrivate(method));
        }
        Due.holds("the ask and the search of orders alone go deeper by themselves: " + recursive, recursive.equals(Set.of(
            "Asks.asked", "Asks.given", "OrderSearch.tryFrom", "OrderSearch.tryEachFall")));
        List<String> longest = graph.longestChain(graph.methods());
        Due.holds("at most eight deep: " + longest, longest.size() <= 8 && longest.size() > 5);
    }
}
