import java.lang.reflect.Method;
import java.nio.file.Files;
import java.nio.file.Path;
import java.util.BitSet;
import java.util.regex.Matcher;
import java.util.regex.Pattern;

/**
 * The tests of edges against the document itself: what they quote stands there, word for word; every promise has one;
 * every place in which the document names an edge stands in what some test quotes; and of the Terms and the promises
 * nothing is left that no test quotes.
 */
public final class DocumentTest {
    private static final Class<?>[] TESTS = {RoadEdgesTest.class, LawEdgesTest.class, PlanAndBookEdgesTest.class,
        TextCallsEdgesTest.class, PlanEdgesTest.class, ToolEdgesTest.class, ChangeEdgesTest.class};
    private static final int PROMISES = 50;

    /** Words by which the document names an edge. */
    private static final Pattern EDGE = Pattern.compile("\\d+ to \\d+(,\\d+)?|\\d+ or \\d+|\\(\\d, \\d\\)|(n|k) to \\d+|n \\d+ to \\d+|at most|at least|up to"
        + "|\\bno more|no less|less than|no later|no deeper|nothing|more than|NONE|-1:|0:|Exception|without|twice|is once|wrap|cut|empty|stays|doing nothing"
        + "|the first\\b|the last counts|the least|the fewest|7th|too many|too early|below|none can|by 0|all SIGNS|others|gone|begun|or more");

    /** What joins the sentences of the Terms, and says nothing by itself. */
    private static final Pattern JOINT = Pattern.compile("(\\W|\\bor\\b|\\bCLAUSE:|==== \\d)*");

    private final Check check = new Check();

    public static void main(String[] args) throws Exception {
        DocumentTest test = new DocumentTest();
        test.compare(Files.readString(Path.of("../shared/DOC.md")));
        test.check.end();
    }

    private static String plain(String text) {
        return text.replace("```text", " ").replace("```", " ").replaceAll("\\s+", " ");
    }

    /** The sections: 0 the Terms, then the promises. */
    private static String[] sections(String document) {
        String[] all = new String[PROMISES + 1];
        for (int k = 0; k <= PROMISES; k++) {
            String from = k == 0 ? "\n## Terms\n" : "\n## Promise " + k + ":";
            String to = k == PROMISES ? "\n## Not promised" : "\n## Promise " + (k + 1) + ":";
            String section = document.substring(document.indexOf(from) + from.length(), document.indexOf(to));
            // What a promise says stands behind its call.
            all[k] = plain(k == 0 ? section : section.substring(section.indexOf("`: ") + 3));
        }
        return all;
    }

    private void compare(String document) {
        String[] sections = sections(document);
        BitSet[] quoted = new BitSet[PROMISES + 1];
        int[] tests = new int[PROMISES + 1];
        for (int k = 0; k <= PROMISES; k++) {
            quoted[k] = new BitSet();
        }
        for (Class<?> test : TESTS) {
            for (Method method : test.getDeclaredMethods()) {
                Says says = method.getAnnotation(Says.class);
                if (says != null) {
                    tests[says.promise()]++;
                    for (String words : says.value()) {
                        mark(test.getSimpleName() + "." + method.getName(), words, sections[says.promise()], quoted[says.promise()]);
                    }
                }
            }
        }
        for (int k = 0; k <= PROMISES; k++) {
            check.holds("a test of edges for promise " + k, tests[k] > 0);
            look(k, sections[k], quoted[k]);
            lookForTheRest(k, sections[k], quoted[k]);
        }
    }

    private void mark(String test, String words, String section, BitSet quoted) {
        int at = section.indexOf(words);
        check.holds(test + " quotes what stands there: " + words, at >= 0);
        if (at >= 0) {
            quoted.set(at, at + words.length());
        }
    }

    private void look(int promise, String section, BitSet quoted) {
        Matcher edge = EDGE.matcher(section);
        while (edge.find()) {
            String near = section.substring(Math.max(0, edge.start() - 30), Math.min(section.length(), edge.end() + 30));
            check.holds("a test quotes '" + edge.group() + "' in promise " + promise + ": .." + near + "..",
                quoted.nextClearBit(edge.start()) >= edge.end());
        }
    }

    private void lookForTheRest(int promise, String section, BitSet quoted) {
        int from = quoted.nextClearBit(0);
        while (from < section.length()) {
            int next = quoted.nextSetBit(from);
            int to = next < 0 ? section.length() : next;
            String rest = section.substring(from, to);
            check.holds("a test quotes '" + rest + "' in promise " + promise, JOINT.matcher(rest).matches());
            from = quoted.nextClearBit(to);
        }
    }
}
