import java.io.IOException;
import java.util.ArrayList;
import java.util.HashSet;
import java.util.List;
import java.util.Set;

/**
 * Tests of the document's boundary cases. Each bears a promise's number and the sentence that it tests, in the
 * document's own words: whether the sentence stands there is looked at, too.
 */
final class Edges {
    private final Checks checks = new Checks();
    private final Document document;
    private final Set<Integer> promisesWithTest = new HashSet<>();
    private final List<String> quoted = new ArrayList<>();
    private int promise;
    private String sentence = "";

    Edges() throws IOException {
        document = new Document();
    }

    /** The runs that follow test this sentence. */
    void sentence(int promiseNumber, String words) {
        promise = promiseNumber;
        sentence = words;
        boolean isItsOwn = document.promises(promise, words);
        checks.due("promise " + promise + ": the document says '" + words + "'",
                isItsOwn || document.saysElsewhere(words), true);
        if (isItsOwn) {
            promisesWithTest.add(promise);
        }
        quoted.add(words);
    }

    /** A run of calls (see Script), and what is at the edge in it. */
    void run(String edge, String calls) {
        int[] looked = {0};
        Script.run(calls, (call, got, due) -> {
            if (due != null) {
                looked[0]++;
                due(edge, call, got, due);
            }
        });
        due(edge, "answers looked at", looked[0] > 0);
    }

    /** What no run of calls can tell. */
    void due(String edge, String what, boolean holds) {
        due(edge, what, Boolean.toString(holds), "true");
    }

    private void due(String edge, String call, String got, String due) {
        String place = "promise " + promise + ", '" + sentence + "', " + edge + ": " + call;
        if (!got.equals(due)) {
            place += " answered " + got + ", due is " + due + ":";
        }
        checks.due(place, got.equals(due), true);
    }

    /** Ends the program, with exit code 1 if an answer was wrong or a sentence has no test. */
    void end() {
        for (int number = 1; number <= Document.PROMISES; number++) {
            checks.due("promise " + number + " has a test with its own sentence",
                    promisesWithTest.contains(number), true);
        }
        for (String term : document.terms()) {
            checks.due("a test has the term's sentence '" + term + "'", isQuoted(term), true);
        }
        checks.end();
    }

    private boolean isQuoted(String term) {
        for (String words : quoted) {
            if (term.contains(words) || words.contains(term)) {
                return true;
            }
        }
        return false;
    }
}
