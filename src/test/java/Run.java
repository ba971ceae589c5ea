import java.lang.reflect.InvocationTargetException;
import java.lang.reflect.Method;
import java.util.ArrayList;
import java.util.HashMap;
import java.util.List;
import java.util.Map;
import java.util.regex.Matcher;
import java.util.regex.Pattern;

/**
 * A run of calls for one sentence of the document. Calls are told as texts ("type(0, 'y')"), so that a run can be told
 * again to another object: that is how a refused call is shown to leave all as it was.
 */
final class Run {
    private static final int MOST_CALLS = 512;
    private static final Pattern CALL = Pattern.compile("(\\w+)\\((.*)\\)");
    private static final Map<String, Method> METHODS = new HashMap<>();
    private static int wrong = 0;

    static {
        for (Method m : StoneVotes.class.getDeclaredMethods()) {
            METHODS.put(m.getName(), m);
        }
    }

    private final int promise;
    private final String words;
    private final List<String> story = new ArrayList<>();
    private StoneVotes x = new StoneVotes();
    private int calls = 0;

    Run(int promise, String words) {
        this.promise = promise;
        this.words = words;
    }

    static int wrongAnswers() {
        return wrong;
    }

    private void tell(String what) {
        wrong++;
        String where = promise == 0 ? "terms" : "promise " + promise;
        System.out.println(where + ", '" + words + "': " + what + "\n    behind " + story);
    }

    private static int number(String told) {
        if (told.equals("MIN")) {
            return Integer.MIN_VALUE;
        }
        if (told.equals("MAX")) {
            return Integer.MAX_VALUE;
        }
        return told.startsWith("'") ? told.charAt(1) : Integer.parseInt(told);
    }

    private static long answer(StoneVotes x, String call) {
        Matcher m = CALL.matcher(call);
        if (!m.matches() || !METHODS.containsKey(m.group(1))) {
            throw new IllegalArgumentException("not a call: " + call);
        }
        String[] told = m.group(2).isEmpty() ? new String[0] : m.group(2).split(", ");
        Object[] numbers = new Object[told.length];
        for (int i = 0; i < told.length; i++) {
            numbers[i] = number(told[i]);
        }
        try {
            return ((Number) METHODS.get(m.group(1)).invoke(x, numbers)).longValue();
        } catch (InvocationTargetException e) {
            throw new IllegalStateException(call + " threw", e.getCause());
        } catch (IllegalAccessException e) {
            throw new IllegalStateException(call, e);
        }
    }

    private long ask(String call) {
        calls++;
        if (calls > MOST_CALLS) {
            throw new IllegalStateException("more calls than an object is used for: " + words);
        }
        story.add(call);
        return answer(x, call);
    }

    /** From here on a new object. */
    Run anew() {
        x = new StoneVotes();
        story.clear();
        calls = 0;
        return this;
    }

    Run due(String call, long want) {
        long got = ask(call);
        if (got != want) {
            tell(call + " answered " + got + ", due is " + want);
        }
        return this;
    }

    /** Calls that only make ready: none of them may be refused. */
    Run with(String... ready) {
        for (String call : ready) {
            long got = ask(call);
            if (got < 0 && !call.startsWith("tide") || got == Sentences.BAD_NUMBER) {
                tell(call + " was refused with " + got);
            }
        }
        return this;
    }

    Run people(String bytes) {
        return typed(0, bytes);
    }

    Run stones(String bytes) {
        return typed(1, bytes);
    }

    private Run typed(int text, String bytes) {
        for (char b : bytes.toCharArray()) {
            with("type(" + text + ", " + (int) b + ")");
        }
        return this;
    }

    Run times(int n, String call) {
        for (int i = 0; i < n; i++) {
            with(call);
        }
        return this;
    }

    /** A SHEET is a new row of these items. */
    Run row(int s, int form, int... items) {
        with("sheet(" + s + ", " + form + ", " + items.length + ")");
        for (int i = 0; i < items.length; i++) {
            with("lay(" + s + ", " + form + ", " + i + ", " + items[i] + ")");
        }
        return this;
    }

    /** The items of a SHEET are these, and no more. */
    Run dueRow(int s, int form, int... items) {
        for (int i = 0; i < items.length; i++) {
            due("get(" + s + ", " + form + ", " + i + ")", items[i]);
        }
        return due("lay(" + s + ", " + form + ", " + items.length + ", 0)", Sentences.INDEX);
    }

    /** A refused call: its answer, and that it changes nothing (a FINDING but count() 8). */
    Run refused(String call, long want) {
        return refused(call, want, want >= Sentences.SIZE && want <= Sentences.NULL ? (int) (-10 - want) : 0);
    }

    /** A call that is not refused, but changes nothing either. */
    Run unchanged(String call, long want) {
        return refused(call, want, 0);
    }

    /** The same, where the answer does not tell which FINDING it was (0: none). */
    Run refused(String call, long want, int finding) {
        List<String> before = new ArrayList<>(story);
        List<String> behind = new ArrayList<>(story);
        behind.add(call);
        if (!Snapshot.ofIsland(before).equals(Snapshot.ofIsland(behind))) {
            tell(call + " changed " + Snapshot.unlike(Snapshot.ofIsland(before), Snapshot.ofIsland(behind)));
        }
        if (!Snapshot.ofSheets(before).equals(Snapshot.ofSheets(behind))) {
            tell(call + " changed " + Snapshot.unlike(Snapshot.ofSheets(before), Snapshot.ofSheets(behind)));
        }
        long latest = ask("count(8)");
        due(call, want);
        return due("count(8)", finding == 0 ? latest : finding);
    }

    /** A new object to which all of a story was told. */
    static Run retold(List<String> story) {
        Run run = new Run(0, "told again");
        for (String call : story) {
            run.ask(call);
        }
        return run;
    }

    /** The same sentence, told so far, to go on with by itself. */
    Run branch() {
        Run run = new Run(promise, words);
        for (String call : story) {
            run.ask(call);
        }
        return run;
    }

    long askedNow(String call) {
        return ask(call);
    }
}
