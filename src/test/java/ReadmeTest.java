import java.lang.reflect.Method;
import java.lang.reflect.Modifier;
import java.nio.file.Files;
import java.nio.file.Path;
import java.util.List;
import java.util.Map;
import java.util.regex.Matcher;
import java.util.regex.Pattern;
import java.util.stream.Stream;

/** README.md tells how to use the class: each answer that it shows is the one that is due, and nothing is left out. */
public final class ReadmeTest {
    private static final Path README = Path.of("README.md");
    private static final Pattern JAVA = Pattern.compile("(?ms)^```java$(.*?)^```$");
    private static final Pattern FED = Pattern.compile("for \\(char letter : \"([^\"]*)\"\\.toCharArray\\(\\)\\) \\{.*");
    private static final Pattern CALLED = Pattern.compile("x\\.(\\w+)\\(([^)]*)\\); +// (NONE|BAD|STATE|FULL|-?\\d+)(?::.*)?");
    private static final Map<String, Integer> NAMED = Map.of("NONE", LuggageBelt.NONE, "BAD", LuggageBelt.BAD,
        "STATE", LuggageBelt.STATE, "FULL", LuggageBelt.FULL);

    private ReadmeTest() {
    }

    public static void main(String[] args) throws Exception {
        String page = Files.readString(README);
        examples(page);
        everythingIsNamed(page);
        Due.end();
    }

    /** The examples are one run of calls on one object. */
    private static void examples(String page) throws Exception {
        LuggageBelt x = new LuggageBelt();
        int answers = 0;
        Matcher block = JAVA.matcher(page);
        while (block.find()) {
            for (String line : block.group(1).strip().split("\n")) {
                Matcher fed = FED.matcher(line.strip());
                Matcher called = CALLED.matcher(line.strip());
                if (fed.matches()) {
                    fed.group(1).chars().forEach(x::feed);
                } else if (called.matches()) {
                    answers++;
                    String want = called.group(3);
                    Due.due(line.strip(), call(x, called.group(1), called.group(2)),
                        NAMED.containsKey(want) ? NAMED.get(want) : Long.parseLong(want));
                } else {
                    Due.holds("a line that the test knows: " + line,
                        List.of("LuggageBelt x = new LuggageBelt();", "x.feed(letter);", "}").contains(line.strip()));
                }
            }
        }
        Due.holds("answers are shown", answers > 30);
    }

    private static long call(LuggageBelt x, String name, String numbers) throws Exception {
        Object[] values = numbers.isEmpty() ? new Object[0]
            : Stream.of(numbers.split(", ")).map(Integer::valueOf).toArray();
        Class<?>[] types = new Class<?>[values.length];
        java.util.Arrays.fill(types, int.class);
        return ((Number) LuggageBelt.class.getMethod(name, types).invoke(x, values)).longValue();
    }

    private static void everythingIsNamed(String page) throws Exception {
        for (Method method : LuggageBelt.class.getDeclaredMethods()) {
            boolean isToBeNamed = Modifier.isPublic(method.getModifiers());
            Due.holds(method.getName() + " is named", !isToBeNamed || isInTable(page, method.getName()));
        }
        for (Class<?> inside : LuggageBelt.class.getDeclaredClasses()) {
            Due.holds(inside.getSimpleName() + " is named", isInTable(page, inside.getSimpleName()));
        }
        try (Stream<Path> tests = Files.list(Path.of("src/test/java"))) {
            for (Path test : tests.filter(p -> p.toString().endsWith("Test.java")).toList()) {
                String name = test.getFileName().toString().replace(".java", "");
                Due.holds(name + " is named", isInTable(page, name));
            }
        }
        for (Map.Entry<String, Integer> one : NAMED.entrySet()) {
            Due.holds(one.getKey() + " is told", page.contains("| `" + one.getKey() + "` " + one.getValue() + " |"));
        }
    }

    private static boolean isInTable(String page, String name) {
        return page.lines().anyMatch(line -> line.startsWith("| ") && line.contains("`" + name + "`"));
    }
}
