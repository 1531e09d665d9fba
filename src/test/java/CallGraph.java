import java.io.PrintWriter;
import java.io.StringWriter;
import java.util.ArrayList;
import java.util.HashSet;
import java.util.List;
import java.util.Map;
import java.util.Set;
import java.util.TreeMap;
import java.util.TreeSet;
import java.util.regex.Matcher;
import java.util.regex.Pattern;
import java.util.spi.ToolProvider;

/** Which method of a class and of the classes inside it calls which, by what javap tells of the compiled classes. */
final class CallGraph {
    private static final Pattern HEAD = Pattern.compile("^  (\\w.*?)?([\\w$]+)\\(.*\\);$");
    private static final Pattern CALL = Pattern.compile("// (?:Interface)?Method (?:([\\w$/]+)\\.)?\"?([\\w$<>]+)\"?:");

    private final Map<String, Set<String>> calls = new TreeMap<>();
    private final Set<String> privates = new HashSet<>();

    static CallGraph of(Class<?> outer) throws Exception {
        CallGraph graph = new CallGraph();
        String path = outer.getProtectionDomain().getCodeSource().getLocation().toURI().getPath();
        graph.read(path, outer);
        for (Class<?> inside : outer.getDeclaredClasses()) {
            graph.read(path, inside);
        }
        for (Set<String> called : graph.calls.values()) {
            called.retainAll(graph.calls.keySet());
        }
        return graph;
    }

    private void read(String path, Class<?> one) {
        StringWriter told = new StringWriter();
        ToolProvider javap = ToolProvider.findFirst("javap").orElseThrow();
        javap.run(new PrintWriter(told), new PrintWriter(told), "-c", "-p", "-cp", path, one.getName());
        Set<String> called = new TreeSet<>();
        for (String line : told.toString().split("\n")) {
            Matcher head = HEAD.matcher(line);
            Matcher call = CALL.matcher(line);
            if (head.matches()) {
                String name = one.getName() + "." + head.group(2);
                called = calls.computeIfAbsent(name, k -> new TreeSet<>());
                if (line.contains("private ")) {
                    privates.add(name);
                }
            } else if (call.find()) {
                String of = call.group(1) == null ? one.getName() : call.group(1).replace('/', '.');
                called.add(of + "." + call.group(2));
            }
        }
    }

    int size() {
        return calls.size();
    }

    boolean isPrivate(String method) {
        return privates.contains(method);
    }

    /** Those from which one can come to them again. */
    Set<String> recursive() {
        Set<String> found = new TreeSet<>();
        for (String method : calls.keySet()) {
            Set<String> reached = new HashSet<>();
            reach(method, reached);
            if (reached.contains(method)) {
                found.add(method);
            }
        }
        return found;
    }

    private void reach(String from, Set<String> reached) {
        for (String called : calls.get(from)) {
            if (reached.add(called)) {
                reach(called, reached);
            }
        }
    }

    /** The longest chain of calls from one of these methods in which none stands twice. */
    List<String> longestChain(Set<String> from) {
        List<String> longest = new ArrayList<>();
        for (String method : from) {
            List<String> chain = new ArrayList<>(List.of(method));
            lengthen(chain, longest);
        }
        return longest;
    }

    private void lengthen(List<String> chain, List<String> longest) {
        if (chain.size() > longest.size()) {
            longest.clear();
            longest.addAll(chain);
        }
        for (String called : calls.get(chain.get(chain.size() - 1))) {
            if (!chain.contains(called)) {
                chain.add(called);
                lengthen(chain, longest);
                chain.remove(chain.size() - 1);
            }
        }
    }

    Set<String> methods() {
        return calls.keySet();
    }
}
