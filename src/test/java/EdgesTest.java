import java.lang.reflect.Method;
import java.nio.file.Files;
import java.nio.file.Path;
import java.util.ArrayList;
import java.util.Arrays;
import java.util.Comparator;
import java.util.List;
import java.util.Map;
import java.util.TreeMap;

/**
 * For each sentence of the document that names an edge a test of its own, each with a new object.
 * What a test holds is told by the document's own words, so that it shows if a clause has no test.
 */
public final class EdgesTest {
    private static final Path DOCUMENT = Path.of("../shared/DOC.md");
    private static final int PROMISES = 35;
    /** What parts the Terms, and tells nothing. */
    private static final String FRAME = " *(I+\\.|```text) *";
    private static final List<Class<? extends Bench>> TESTS = List.of(
            EdgesOfTerms.class, EdgesOfText.class, EdgesOfActs.class, EdgesOfQuestions.class);

    /** The words that are held, by the number of their promise. */
    private final Map<Integer, List<String>> held = new TreeMap<>();
    private final Bench bench = new Bench();

    public static void main(String[] args) throws Exception {
        EdgesTest all = new EdgesTest();
        for (Class<? extends Bench> test : TESTS) {
            all.runAll(test);
        }
        all.lookForGaps(Files.readString(DOCUMENT));
        Bench.tell("EdgesTest");
    }

    private void runAll(Class<? extends Bench> test) throws Exception {
        Method[] methods = test.getDeclaredMethods();
        Arrays.sort(methods, Comparator.comparing(Method::getName));
        for (Method method : methods) {
            Sentence sentence = method.getAnnotation(Sentence.class);
            if (sentence == null) {
                continue;
            }
            Bench fresh = test.getDeclaredConstructor().newInstance();
            fresh.name = (sentence.promise() == 0 ? "terms" : "promise " + sentence.promise()) + ", " + method.getName();
            held.computeIfAbsent(sentence.promise(), p -> new ArrayList<>()).addAll(List.of(sentence.says()));
            method.setAccessible(true);
            method.invoke(fresh);
        }
    }

    /** Every word of the promises is held by a test, and what tests say they hold stands in the document. */
    private void lookForGaps(String document) {
        bench.name = "the document";
        for (int promise = 0; promise <= PROMISES; promise++) {
            String text = sectionOf(document, promise);
            boolean[] isHeld = new boolean[text.length()];
            for (String said : held.getOrDefault(promise, List.of())) {
                if (!mark(text, said, isHeld)) {
                    bench.wrongBy("promise " + promise + " does not say: " + said);
                }
            }
            tellGaps(promise, text, isHeld);
        }
    }

    private static boolean mark(String text, String said, boolean[] isHeld) {
        int at = text.indexOf(said);
        boolean found = at >= 0;
        while (at >= 0) {
            Arrays.fill(isHeld, at, at + said.length(), true);
            at = text.indexOf(said, at + 1);
        }
        return found;
    }

    private void tellGaps(int promise, String text, boolean[] isHeld) {
        StringBuilder rest = new StringBuilder();
        for (int k = 0; k < text.length(); k++) {
            rest.append(isHeld[k] ? '\n' : text.charAt(k));
        }
        for (String gap : rest.toString().split("\n+")) {
            if (gap.matches(".*[A-Za-z0-9].*") && !gap.matches(FRAME)) {
                bench.wrongBy("promise " + promise + ", no test holds: " + gap);
            }
        }
    }

    private static String sectionOf(String document, int promise) {
        String head = promise == 0 ? "## Terms\n" : "## Promise " + promise + ":";
        int begin = document.indexOf(head);
        if (begin < 0) {
            return "";
        }
        int from = begin + head.length();
        int to = document.indexOf("\n## ", from);
        String section = document.substring(from, to < 0 ? document.length() : to);
        int face = promise == 0 ? 0 : section.indexOf("`: ") + 3;
        return section.substring(face).trim();
    }
}
