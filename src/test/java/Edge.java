import java.io.IOException;
import java.nio.file.Files;
import java.nio.file.Path;
import java.util.ArrayList;
import java.util.List;
import java.util.Map;
import java.util.Set;
import java.util.TreeMap;
import java.util.TreeSet;
import java.util.regex.Matcher;
import java.util.regex.Pattern;

/**
 * Answers that are due at the document's edges, each under the promise and the sentence that asks for
 * it. In the end it holds what was tested against the document itself: each sentence must stand there,
 * each promise must have one, and each refusal that a promise names must have been called for.
 */
final class Edge {
    private static final Path DOC = Path.of("../shared/DOC.md");
    private static final int PROMISES = 25;
    private static final Map<Integer, String> REFUSALS = Map.of(
        SquareFolds.UNKNOWN, "UNKNOWN", SquareFolds.BAD, "BAD", SquareFolds.LATE, "LATE", SquareFolds.FULL, "FULL");

    private final Due due = new Due();
    private final Map<Integer, Set<String>> refused = new TreeMap<>();
    private final Set<String> sentences = new TreeSet<>();
    private int promise = 0;
    private String sentence = "";

    /** What follows is asked for by this sentence, and shown by the call of this promise. */
    void of(int newPromise, String newSentence) {
        promise = newPromise;
        sentence = newSentence;
        sentences.add(newSentence);
        refused.computeIfAbsent(newPromise, k -> new TreeSet<>());
    }

    void is(String call, long got, long want) {
        due.is("promise " + promise + " (" + sentence + "): " + call, got, want);
    }

    void holds(String what, boolean so) {
        due.holds("promise " + promise + " (" + sentence + "): " + what, so);
    }

    void refuses(String call, long got, int refusal) {
        refused.get(promise).add(REFUSALS.get(refusal));
        is(call, got, refusal);
    }

    /** R and U, told as two rows of figures. */
    void glued(String when, SquareFolds folds, String right, String up) {
        is(when + ": squares", folds.about(0), right.length());
        for (int i = 0; i < right.length(); i++) {
            is(when + ": go(" + i + ", 1)", folds.go(i, 1), right.charAt(i) - '0');
            is(when + ": go(" + i + ", 3)", folds.go(i, 3), up.charAt(i) - '0');
        }
    }

    void end() throws IOException {
        if (Files.isReadable(DOC)) {
            compareWith(Files.readString(DOC));
        } else {
            System.out.println("there is no " + DOC + ": the sentences were not looked up");
        }
        due.end();
    }

    private void compareWith(String doc) {
        String plain = doc.replaceAll("\\s+", " ");
        for (String told : sentences) {
            due.holds("the document says: " + told, plain.contains(told));
        }
        for (int number = 1; number <= PROMISES; number++) {
            due.holds("promise " + number + " has a sentence", refused.containsKey(number));
            for (String name : namedIn(doc, number)) {
                due.holds("promise " + number + " is refused by " + name,
                    refused.getOrDefault(number, Set.of()).contains(name));
            }
        }
    }

    private static List<String> namedIn(String doc, int number) {
        int start = doc.indexOf("## Promise " + number + ":");
        int end = doc.indexOf("\n## ", start + 1);
        List<String> names = new ArrayList<>();
        if (start >= 0 && end > start) {
            Matcher matcher = Pattern.compile("UNKNOWN|BAD|LATE|FULL").matcher(doc.substring(start, end));
            while (matcher.find()) {
                names.add(matcher.group());
            }
        }
        return names;
    }
}
