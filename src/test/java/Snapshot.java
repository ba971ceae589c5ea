import java.util.ArrayList;
import java.util.List;

/** All that can be asked of an object behind a story, but for count() 8: each call with its answer. */
final class Snapshot {
    private Snapshot() {
    }

    private static final class Answers {
        final Run run;
        final List<String> list = new ArrayList<>();

        Answers(List<String> story) {
            run = Run.retold(story);
        }

        void ask(String name, int... numbers) {
            StringBuilder call = new StringBuilder(name).append('(');
            for (int i = 0; i < numbers.length; i++) {
                call.append(i == 0 ? "" : ", ").append(numbers[i]);
            }
            call.append(')');
            list.add(call + " = " + run.askedNow(call.toString()));
        }

        void askEach(String name, int from, int to) {
            for (int i = from; i <= to; i++) {
                ask(name, i);
            }
        }

        void askPairs(String name, int first, int second) {
            for (int i = 0; i < first; i++) {
                for (int j = 0; j < second; j++) {
                    ask(name, i, j);
                }
            }
        }
    }

    static List<String> ofIsland(List<String> story) {
        Answers a = new Answers(story);
        a.askEach("count", 0, 7);
        a.askEach("fault", 0, 1);
        a.askPairs("person", 8, 3);
        a.askPairs("stone", 9, 3);
        a.ask("judged");
        a.askEach("laid", 0, 29);
        a.askEach("tip", 0, 24);
        for (int arm = 1; arm <= 5; arm++) {
            a.ask("shelf", 0, arm, 24);
            a.ask("shelf", 1, arm, 24);
        }
        a.ask("slid", 24);
        a.ask("when");
        a.askEach("result", 0, 2);
        a.ask("settled");
        a.ask("doubles");
        a.askEach("fewest", 0, 1);
        a.askEach("most", 0, 1);
        a.askEach("hold", 0, 1);
        a.ask("game", 4, 0);
        a.ask("game", 4, 1);
        a.askPairs("secret", 4, 3);
        a.ask("digest");
        // What can only be seen by changing it comes last: LOAD, the ARMS, and the CARRIES on a longer day.
        a.ask("set", 1, 99);
        for (int p = 0; p <= 7; p++) {
            a.ask("arm", p, 0);
        }
        a.ask("set", 0, 24);
        a.askEach("laid", 0, 29);
        a.askEach("without", 0, 29);
        a.ask("wipe", 0);
        a.ask("wipe", 1);
        return a.list;
    }

    static List<String> ofSheets(List<String> story) {
        Answers a = new Answers(story);
        for (int s = 0; s <= 3; s++) {
            for (int form = 0; form <= 2; form++) {
                // There is no item -1: so the FINDING is NULL, CAST or, if the FORM is right, INDEX.
                a.ask("get", s, form, -1);
                a.ask("count", 8);
                if (a.list.get(a.list.size() - 1).equals("count(8) = 2")) {
                    askItems(a, s, form);
                }
            }
            a.ask("lose", s);
        }
        return a.list;
    }

    private static void askItems(Answers a, int s, int form) {
        for (int i = 0; i < 60; i++) {
            a.ask("get", s, form, i);
        }
    }

    static List<String> unlike(List<String> before, List<String> behind) {
        List<String> unlike = new ArrayList<>();
        for (int i = 0; i < Math.min(before.size(), behind.size()); i++) {
            if (!before.get(i).equals(behind.get(i))) {
                unlike.add(before.get(i) + " to " + behind.get(i));
            }
        }
        return unlike;
    }
}
