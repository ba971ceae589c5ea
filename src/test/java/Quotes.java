import java.util.ArrayList;
import java.util.List;
import java.util.Map;
import java.util.TreeMap;

/**
 * Tests that quote the document word for word: a sentence that the document has and no test quotes is a fault, and so
 * is one that a test quotes and the document has not.
 */
abstract class Quotes extends Sentences {
    static final Document DOCUMENT = new Document();
    private static final Map<Integer, List<String>> QUOTED = new TreeMap<>();
    private static int faults = 0;

    /** A sentence of a promise (0: of another section), and the run that holds it. */
    static Run says(int promise, String words) {
        QUOTED.computeIfAbsent(promise, p -> new ArrayList<>()).add(words);
        return sentence(promise, words);
    }

    static void tell(String fault) {
        faults++;
        System.out.println(fault);
    }

    /** All that the document says of a promise was quoted, in its order, and nothing else. */
    static void allQuoted(int promise, List<String> document) {
        List<String> quoted = QUOTED.getOrDefault(promise, List.of());
        for (String words : document) {
            if (!quoted.contains(words)) {
                tell("no test quotes (promise " + promise + "): " + words);
            }
        }
        for (String words : quoted) {
            if (!document.contains(words)) {
                tell("the document does not say (promise " + promise + "): " + words);
            }
        }
        if (!quoted.equals(document)) {
            tell("not quoted in its order: promise " + promise);
        }
    }

    static void endQuotes(String test, int from, int to) {
        if (faults != 0) {
            System.out.println(test + ": " + faults + " faults of quoting");
            System.exit(1);
        }
        end(test, from, to);
    }
}
