/** "They change nothing": each refused call of the face on an island that is new, busy, and full. */
public final class RefusalsTest extends Sentences {
    private static final String[] BAD_CALLS = {
        "type(-1, 49)", "type(2, 49)", "type(0, -1)", "type(0, 256)", "type(1, -1)", "type(1, 256)", "wipe(-1)", "wipe(2)",
        "fault(-1)", "fault(2)", "person(-1, 0)", "person(8, 0)", "person(0, -1)", "person(0, 3)", "stone(-1, 0)",
        "stone(9, 0)", "stone(0, -1)", "stone(0, 3)", "set(-1, 5)", "set(2, 5)", "set(0, 0)", "set(0, 25)", "set(1, 0)",
        "set(1, 100)", "carry(-1, 0, 1)", "carry(8, 0, 1)", "carry(0, -1, 1)", "carry(0, 9, 1)", "carry(0, 0, 0)",
        "carry(0, 0, 6)", "carry(3, 5, 0)", "carry(3, 5, 6)", "carry(3, 9, 3)", "carry(8, 5, 3)", "read(-1)",
        "read(4)", "laid(-1)", "laid(30)", "shelf(-1, 1, 0)", "shelf(2, 1, 0)",
        "shelf(0, 0, 0)", "shelf(0, 6, 0)", "shelf(0, 1, -1)", "shelf(0, 1, 25)", "slid(-1)", "slid(25)", "fewest(-1)",
        "fewest(2)", "most(-1)", "most(2)", "hold(-1)", "hold(2)", "arm(-1, 3)", "arm(8, 3)", "arm(0, -1)", "arm(0, 6)",
        "secret(-1000, 0)", "secret(1000, 0)", "secret(0, -1)", "secret(0, 3)", "sheet(-1, 0, 3)", "sheet(4, 0, 3)",
        "sheet(0, -1, 3)", "sheet(0, 3, 3)", "sheet(0, 0, 61)", "lose(-1)", "lose(4)", "lay(-1, 0, 0, 9)",
        "lay(4, 0, 0, 9)", "lay(0, -1, 0, 9)", "lay(0, 3, 0, 9)", "copy(-1, 0, 0, 0, 1)", "copy(4, 0, 0, 0, 1)",
        "copy(0, 0, -1, 0, 1)", "copy(0, 0, 4, 0, 1)", "write(-1)", "write(4)", "count(-1)", "count(9)",
    };
    private static final String[] BAD_NUMBER_CALLS = {
        "tide(-1, 9)", "tide(25, 9)", "tide(0, -51)", "tide(0, 51)", "tide(12, 51)", "tip(-1)", "tip(25)", "result(-1)",
        "result(3)", "without(-1)", "without(30)", "game(0, 0)", "game(5, 0)", "game(1, -1)", "game(1, 2)",
    };
    private static final String[] BAD_ITEM_CALLS = {"get(-1, 0, 0)", "get(4, 0, 0)", "get(0, -1, 0)", "get(0, 3, 0)"};
    // In all three states sheet 3 is LOST.
    private static final String[] NULL_CALLS = {
        "read(3)", "lose(3)", "lay(3, 0, 0, 9)", "lay(3, 2, -1, 9)", "copy(3, 0, 0, 0, 1)", "copy(0, 0, 3, 0, 1)",
        "copy(3, 0, 3, 0, 0)", "write(3)",
    };
    private static final String[] SIZE_CALLS = {"sheet(0, 0, -1)", "sheet(2, 2, -1)", "sheet(3, 1, -1)", "sheet(0, 0, MIN)"};
    // Where sheets 0, 1 and 2 have the FORMS 0, 1 and 2.
    private static final String[] CAST_CALLS = {
        "lay(0, 1, 0, 9)", "lay(0, 2, 0, 9)", "lay(1, 0, 0, 9)", "lay(1, 2, 60, 9)", "lay(2, 0, -1, 9)", "lay(2, 1, 0, 9)",
    };
    private static final String[] STORE_CALLS = {
        "copy(0, 0, 1, 0, 1)", "copy(1, 0, 0, 0, 1)", "copy(0, 0, 2, 0, 1)", "copy(2, 0, 1, 0, 0)", "copy(2, -1, 0, 0, 1)",
    };
    private static final String[] INDEX_CALLS = {
        "lay(0, 0, -1, 9)", "lay(0, 0, 60, 9)", "lay(1, 1, 60, 9)", "lay(2, 2, -1, 9)", "copy(0, -1, 0, 0, 1)",
        "copy(0, 0, 0, -1, 1)", "copy(0, 0, 0, 0, -1)", "copy(0, 0, 0, 0, 61)", "copy(1, 60, 1, 0, 1)",
        "copy(2, 0, 2, 60, 1)", "copy(2, 0, 2, 1, 60)",
    };

    public static void main(String[] args) {
        onNew();
        onBusy();
        onFull();
        end("RefusalsTest", 0, 0);
    }

    private static Run busy(String words) {
        return sentence(0, words).people("9y7n3y9n").stones("9051423315246050").row(0, 0, 5, -6, 127)
            .row(1, 1, 300, -300, 4).row(2, 2, 100000, -100000).with("set(0, 11)", "set(1, 12)", "tide(0, 1)", "tide(3, -9)",
                "tide(11, 4)", "arm(2, 5)", "arm(7, 0)", "carry(0, 0, 5)", "carry(1, 1, 1)", "carry(0, 7, 5)",
                "carry(3, 0, 2)", "carry(3, 3, 1)", "carry(2, 0, 4)", "carry(2, 4, 4)");
    }

    private static Run full(String words) {
        Run run = sentence(0, words).people("9y8n7y6n5y4n3y2n").stones("112131415162738290");
        for (int c = 0; c < 29; c++) {
            run.with("carry(" + c % 8 + ", " + c * 5 % 8 + ", " + (c % 5 + 1) + ")");
        }
        // The last of them is by LAW, and alone in carrying its STONE: it shows if another one takes its place.
        run.with("carry(0, 8, 5)");
        for (int s = 0; s <= 2; s++) {
            run.with("sheet(" + s + ", " + s + ", 60)", "lay(" + s + ", " + s + ", 0, -5)",
                "lay(" + s + ", " + s + ", 59, 6)");
        }
        return run;
    }

    private static void each(Run run, String[] calls, int want) {
        for (String call : calls) {
            // Each behind the same story: so that none hides what another one did.
            run.branch().refused(call, want);
        }
    }

    private static void eachItem(Run run, String[] calls, int finding) {
        for (String call : calls) {
            run.branch().refused(call, LEAST_INT, finding);
        }
    }

    private static void inEachState(Run run) {
        each(run, BAD_CALLS, BAD);
        each(run, BAD_NUMBER_CALLS, BAD_NUMBER);
        eachItem(run, BAD_ITEM_CALLS, 0);
        each(run, NULL_CALLS, NULL);
        eachItem(run, new String[] {"get(3, 0, 0)", "get(3, 2, -1)"}, 1);
        each(run, SIZE_CALLS, SIZE);
    }

    private static void withSheets(Run run) {
        each(run, CAST_CALLS, CAST);
        eachItem(run, new String[] {"get(0, 1, 0)", "get(0, 2, -1)", "get(1, 0, 60)", "get(2, 1, 0)"}, 3);
        each(run, STORE_CALLS, STORE);
        each(run, INDEX_CALLS, INDEX);
        eachItem(run, new String[] {"get(0, 0, -1)", "get(0, 0, 60)", "get(1, 1, MAX)", "get(2, 2, MIN)"}, 2);
    }

    private static void onNew() {
        Run run = sentence(0, "refused, a new island stays as it was").row(0, 0, 1).with("lose(0)").row(0, 0, 7);
        inEachState(run);
        each(run, new String[] {"undo()"}, NOT);
        each(run, new String[] {"person(0, 0)", "stone(0, 0)", "laid(0)"}, BAD);
        each(run, new String[] {"without(0)"}, BAD_NUMBER);
    }

    private static void onBusy() {
        Run run = busy("refused, a busy island stays as it was");
        inEachState(run);
        withSheets(run);
        each(run, new String[] {"person(4, 0)", "stone(8, 0)", "laid(7)"}, BAD);
        each(run, new String[] {"without(7)"}, BAD_NUMBER);
        each(run, new String[] {"lay(0, 0, 3, 9)", "lay(1, 1, 3, 9)", "lay(2, 2, 2, 9)", "copy(0, 0, 0, 1, 3)"}, INDEX);
        run = busy("refused behind a FINDING").due("lay(0, 1, 0, 9)", CAST);
        inEachState(run);
        withSheets(run);
    }

    private static void onFull() {
        Run run = full("refused, a full island stays as it was");
        inEachState(run);
        withSheets(run);
        each(run, new String[] {"type(0, '1')", "type(0, 'y')", "type(0, 0)", "carry(1, 0, 1)", "carry(0, 8, 4)",
            "carry(1, 8, 5)", "carry(0, 7, 5)"}, FULL);
        for (int s = 0; s <= 2; s++) {
            run.branch().unchanged("read(" + s + ")", 0);
        }
        run.with("type(1, '1')", "type(1, '0')");
        each(run, new String[] {"type(1, '1')", "type(1, 0)", "type(0, '1')"}, FULL);
        each(run, new String[] {"type(1, 256)", "type(1, -1)", "stone(0, 0)"}, BAD);
    }
}
