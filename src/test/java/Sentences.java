import java.util.Set;
import java.util.TreeSet;

/** What the tests of single sentences share: the answers by name, and the end of a test. */
abstract class Sentences {
    static final int NONE = -1, BAD = -2, NOT = -3, FULL = -4;
    static final int NULL = -11, INDEX = -12, CAST = -13, STORE = -14, SIZE = -15;
    static final int BAD_NUMBER = -10002;
    static final int LEAST_INT = Integer.MIN_VALUE;

    private static final Set<Integer> PROMISES = new TreeSet<>();
    private static int sentences = 0;

    static Run sentence(int promise, String words) {
        PROMISES.add(promise);
        sentences++;
        return new Run(promise, words);
    }

    static void end(String test, int from, int to) {
        int wrong = Run.wrongAnswers();
        for (int promise = from; promise <= to; promise++) {
            if (!PROMISES.contains(promise)) {
                wrong++;
                System.out.println(test + ": no sentence of promise " + promise);
            }
        }
        System.out.println(test + ": " + sentences + " sentences, " + wrong + " faults");
        if (wrong != 0) {
            System.exit(1);
        }
    }
}
