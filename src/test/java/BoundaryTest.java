import java.lang.reflect.Method;
import java.util.Arrays;
import java.util.BitSet;
import java.util.Comparator;
import java.util.List;
import java.util.Map;
import java.util.TreeMap;
import java.util.regex.Matcher;
import java.util.regex.Pattern;

/**
 * The boundary cases that the document names, each with a test of its own: every method that bears a Sentence is run
 * by itself, and every word of the document that names a boundary must stand in the sentence of some test.
 * With words as arguments: only those tests in whose names one of them stands.
 */
public final class BoundaryTest {
    private static final List<Class<?>> TESTS = List.of(TermsBoundaries.class, TickBoundaries.class,
        ForetoldTermsBoundaries.class, RowBoundaries.class, ToldBoundaries.class, DoneBoundaries.class,
        ForetoldBoundaries.class, AskedBoundaries.class);

    /** What names a boundary: how far a number goes, what is refused or found, what is empty, full, or goes round. */
    private static final Pattern BOUNDARY = Pattern.compile("\\d+ to \\d+|\\d+ \\.\\. \\d+|at most|\\bBAD\\b|\\bSTATE\\b"
        + "|\\bFULL\\b|\\bNONE\\b|\\bNULL\\b|\\bSTORE\\b|\\bPLACE[ ;.]*\\(i, j, n|(?<!less )\\bSIZE\\.|\\bNo HALL|\\bno HALL\\b|(?<!so that )\\bnone\\b"
        + "|\\bat first\\b|\\bempty then\\b|\\bis empty\\b|go round|behind the last|before 0|\\babove 40\\b|\\bor more\\b"
        + "|\\bthe end\\b|\\bthe first 16\\b|forgotten|cut towards|0 is 0 by 1|\\(cut\\)|0, if none did|lowest bits"
        + "|no ACT can be undone|all stays|before one|changes nothing|nothing changes|of several|the least|nobody");

    private BoundaryTest() {
    }

    public static void main(String[] args) throws Exception {
        Map<String, String> parts = DocumentParts.read();
        Map<String, BitSet> quoted = new TreeMap<>();
        int run = 0;
        for (Class<?> tests : TESTS) {
            Method[] methods = tests.getDeclaredMethods();
            Arrays.sort(methods, Comparator.comparing(Method::getName));
            for (Method test : methods) {
                Sentence sentence = test.getAnnotation(Sentence.class);
                if (sentence != null) {
                    lookUp(parts, quoted, test.getName(), sentence);
                    run += isWanted(test.getName(), args) && runOne(test, sentence) ? 1 : 0;
                }
            }
        }
        everyBoundaryIsQuoted(parts, quoted);
        System.out.println(run + " boundary cases");
        Due.end();
    }

    private static boolean isWanted(String name, String[] args) {
        return args.length == 0 || Arrays.stream(args).anyMatch(name::contains);
    }

    private static boolean runOne(Method test, Sentence sentence) throws Exception {
        int before = Due.asked();
        Due.begin(test.getName() + " (" + sentence.at() + ": \"" + sentence.words() + "\")");
        test.setAccessible(true);
        test.invoke(null);
        Due.holds("asks anything", Due.asked() > before);
        Due.begin("");
        return true;
    }

    /** The name of a test begins with the part of the document, so that one finds it from there. */
    private static void lookUp(Map<String, String> parts, Map<String, BitSet> quoted, String name, Sentence sentence) {
        String at = sentence.at();
        Matcher number = Pattern.compile("(Terms|Promise) (\\d+)").matcher(at);
        String begin = number.matches() ? String.format("%s%s_", number.group(1).toLowerCase(),
            number.group(1).equals("Promise") ? String.format("%02d", Integer.parseInt(number.group(2))) : number.group(2))
            : at.equals("Terms") ? "terms_" : "whatItIs_";
        Due.holds(name + " begins with " + begin, name.startsWith(begin));
        String part = parts.getOrDefault(at, "");
        int from = part.indexOf(sentence.words());
        Due.holds(name + ": the words stand in " + at + ": " + sentence.words(), from >= 0 && !sentence.words().isEmpty());
        Due.holds(name + ": the words stand there once: " + sentence.words(), from == part.lastIndexOf(sentence.words()));
        if (from >= 0) {
            quoted.computeIfAbsent(at, k -> new BitSet()).set(from, from + sentence.words().length());
        }
    }

    private static void everyBoundaryIsQuoted(Map<String, String> parts, Map<String, BitSet> quoted) {
        int found = 0;
        for (Map.Entry<String, String> part : parts.entrySet()) {
            if (!part.getKey().matches("What it is|Terms( \\d)?|Promise \\d+")) {
                continue;
            }
            BitSet here = quoted.getOrDefault(part.getKey(), new BitSet());
            Matcher boundary = BOUNDARY.matcher(part.getValue());
            while (boundary.find()) {
                found++;
                boolean isQuoted = here.nextClearBit(boundary.start()) >= boundary.end();
                int from = Math.max(0, boundary.start() - 40);
                int to = Math.min(part.getValue().length(), boundary.end() + 40);
                Due.holds("a test for " + part.getKey() + ": .." + part.getValue().substring(from, to) + "..", isQuoted);
            }
        }
        Due.holds("boundaries were found", found > 150);
    }
}
