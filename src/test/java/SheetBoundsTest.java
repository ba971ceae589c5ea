import java.math.BigInteger;

/** Promises 28 to 35, sentence by sentence: SHEETS, FINDINGS, what is counted, and the digest. */
public final class SheetBoundsTest extends Sentences {
    private static final String NINE_NINES = "909090909090909090";

    public static void main(String[] args) {
        sheet();
        sheetAnew();
        lose();
        lay();
        layLowestBits();
        layRefused();
        get();
        getRefused();
        copy();
        copyRefused();
        copyIndex();
        write();
        writeLowestBits();
        count();
        countAtMost();
        countFindings();
        digest();
        digestWraps();
        end("SheetBoundsTest", 28, 35);
    }

    private static void sheet() {
        sentence(28, "SHEETS 0 .. 3, and beyond").due("sheet(0, 0, 1)", 1).due("sheet(3, 0, 2)", 2)
            .refused("sheet(-1, 0, 1)", BAD).refused("sheet(4, 0, 1)", BAD).refused("sheet(MIN, 0, 1)", BAD)
            .refused("sheet(MAX, 0, 1)", BAD);
        sentence(28, "a FORM: 0 to 2, and beyond").due("sheet(0, 0, 1)", 1).due("sheet(1, 1, 1)", 1)
            .due("sheet(2, 2, 1)", 1).refused("sheet(0, -1, 1)", BAD).refused("sheet(0, 3, 1)", BAD)
            .refused("sheet(0, MIN, 1)", BAD).refused("sheet(0, MAX, 1)", BAD);
        sentence(28, "of 0 to 60 items: the fewest and the most").due("sheet(0, 0, 0)", 0).due("sheet(1, 1, 60)", 60)
            .due("lose(0)", 0).due("lose(1)", 60);
        sentence(28, "above 60").row(0, 2, 7, 8).refused("sheet(0, 0, 61)", BAD).refused("sheet(0, 2, MAX)", BAD)
            .refused("sheet(1, 0, 61)", BAD).dueRow(0, 2, 7, 8);
        sentence(28, "SIZE: below 0").row(0, 2, 7, 8).refused("sheet(0, 0, -1)", SIZE).refused("sheet(0, 2, MIN)", SIZE)
            .refused("sheet(1, 0, -1)", SIZE).dueRow(0, 2, 7, 8).due("lose(1)", NULL);
        sentence(28, "BAD ahead of SIZE").refused("sheet(4, 0, -1)", BAD).refused("sheet(-1, 0, -1)", BAD)
            .refused("sheet(0, 3, -1)", BAD).refused("sheet(0, -1, -1)", BAD).due("count(8)", 0);
    }

    private static void sheetAnew() {
        Run zeros = sentence(28, "0 to 60 items (0 at first)");
        for (int form = 0; form <= 2; form++) {
            zeros.anew().with("sheet(1, " + form + ", 60)");
            for (int i = 0; i < 60; i++) {
                zeros.due("get(1, " + form + ", " + i + ")", 0).with("lay(1, " + form + ", " + i + ", -1)");
            }
            zeros.with("sheet(1, " + form + ", 60)");
            for (int i = 0; i < 60; i++) {
                zeros.due("get(1, " + form + ", " + i + ")", 0);
            }
        }
        sentence(28, "a new row, though one is there: longer").row(0, 0, 1, 2).with("sheet(0, 0, 3)").dueRow(0, 0, 0, 0, 0);
        sentence(28, "a new row, though one is there: shorter, and long again").row(0, 0, 1, 2, 3)
            .with("sheet(0, 0, 1)").dueRow(0, 0, 0).with("sheet(0, 0, 3)").dueRow(0, 0, 0, 0, 0);
        sentence(28, "a new row of another FORM").row(0, 0, 1, 2).due("sheet(0, 2, 2)", 2).dueRow(0, 2, 0, 0)
            .due("get(0, 0, 0)", LEAST_INT).due("count(8)", 3);
        sentence(28, "a new row where one was LOST").row(0, 0, 1, 2).with("lose(0)").due("sheet(0, 0, 2)", 2)
            .dueRow(0, 0, 0, 0);
        sentence(28, "each SHEET by itself").row(0, 0, 1).row(1, 0, 2).row(2, 0, 3).row(3, 0, 4).dueRow(0, 0, 1)
            .dueRow(1, 0, 2).dueRow(2, 0, 3).dueRow(3, 0, 4);
    }

    private static void lose() {
        sentence(29, "how many items it had: none, one, and most").with("sheet(0, 0, 0)", "sheet(1, 1, 1)",
            "sheet(2, 2, 60)").due("lose(0)", 0).due("lose(1)", 1).due("lose(2)", 60);
        sentence(29, "NULL: LOST at first, and LOST anew").refused("lose(0)", NULL).refused("lose(3)", NULL)
            .with("sheet(3, 0, 5)").due("lose(3)", 5).refused("lose(3)", NULL).with("sheet(0, 0, 0)").due("lose(0)", 0)
            .refused("lose(0)", NULL);
        sentence(29, "no such SHEET").with("sheet(0, 0, 5)", "sheet(3, 0, 5)").refused("lose(-1)", BAD)
            .refused("lose(4)", BAD).refused("lose(MIN)", BAD).refused("lose(MAX)", BAD);
        sentence(29, "It is LOST, no other").row(0, 0, 1).row(1, 0, 2).with("lose(0)").refused("get(0, 0, 0)", LEAST_INT, 1)
            .due("get(1, 0, 0)", 2);
    }

    private static void lay() {
        Run items = sentence(30, "Item i: the first and the last");
        for (int form = 0; form <= 2; form++) {
            items.anew().with("sheet(0, " + form + ", 60)").due("lay(0, " + form + ", 0, 5)", 1)
                .due("lay(0, " + form + ", 59, 6)", 1).due("get(0, " + form + ", 0)", 5).due("get(0, " + form + ", 1)", 0)
                .due("get(0, " + form + ", 58)", 0).due("get(0, " + form + ", 59)", 6);
        }
        sentence(30, "Item i alone").row(0, 0, 1, 2, 3).due("lay(0, 0, 1, 9)", 1).dueRow(0, 0, 1, 9, 3);
        sentence(30, "the last SHEET").row(3, 2, 1).due("lay(3, 2, 0, 9)", 1).dueRow(3, 2, 9);
    }

    private static void layLowestBits() {
        int max = Integer.MAX_VALUE;
        Run bytes = sentence(30, "the lowest bits that it has: bytes").with("sheet(0, 0, 1)");
        int[][] eight = {
            {0, 0}, {127, 127}, {128, -128}, {255, -1}, {256, 0}, {257, 1}, {-1, -1}, {-128, -128}, {-129, 127},
            {-256, 0}, {383, 127}, {384, -128}, {65536, 0}, {max, -1}, {LEAST_INT, 0}, {LEAST_INT + 1, 1},
        };
        Run shorts = sentence(30, "the lowest bits that it has: shorts").with("sheet(1, 1, 1)");
        int[][] sixteen = {
            {0, 0}, {128, 128}, {32767, 32767}, {32768, -32768}, {65535, -1}, {65536, 0}, {65537, 1}, {-1, -1},
            {-32768, -32768}, {-32769, 32767}, {-65536, 0}, {98303, 32767}, {98304, -32768}, {max, -1}, {LEAST_INT, 0},
        };
        Run ints = sentence(30, "the lowest bits that it has: ints, all").with("sheet(2, 2, 1)");
        int[] all = {0, 128, 32768, 65536, -1, -129, -32769, max, LEAST_INT + 1, LEAST_INT};
        for (int[] pair : eight) {
            bytes.due("lay(0, 0, 0, " + pair[0] + ")", 1).due("get(0, 0, 0)", pair[1]);
        }
        for (int[] pair : sixteen) {
            shorts.due("lay(1, 1, 0, " + pair[0] + ")", 1).due("get(1, 1, 0)", pair[1]);
        }
        for (int v : all) {
            ints.due("lay(2, 2, 0, " + v + ")", 1).due("get(2, 2, 0)", v).due("count(8)", 0);
        }
    }

    private static void layRefused() {
        Run forms = sentence(30, "CAST: it has another FORM");
        Run index = sentence(30, "INDEX: there is no such item");
        for (int form = 0; form <= 2; form++) {
            forms.anew().row(0, form, 7);
            for (int other = 0; other <= 2; other++) {
                if (other != form) {
                    forms.refused("lay(0, " + other + ", 0, 5)", CAST);
                }
            }
            String head = "lay(1, " + form + ", ";
            index.anew().row(1, form, 7, 8, 9).refused(head + "-1, 5)", INDEX).refused(head + "3, 5)", INDEX)
                .refused(head + "59, 5)", INDEX).refused(head + "60, 5)", INDEX).refused(head + "MIN, 5)", INDEX)
                .refused(head + "MAX, 5)", INDEX).due(head + "2, 5)", 1);
        }
        sentence(30, "INDEX: of no items, and of most").with("sheet(0, 0, 0)", "sheet(1, 0, 60)")
            .refused("lay(0, 0, 0, 5)", INDEX).refused("lay(0, 0, -1, 5)", INDEX).refused("lay(1, 0, 60, 5)", INDEX);
        sentence(30, "INDEX: behind a row that was longer").row(0, 0, 1, 2, 3).row(0, 0, 1)
            .refused("lay(0, 0, 1, 5)", INDEX).refused("lay(0, 0, 2, 5)", INDEX);
        sentence(30, "NULL: the SHEET is LOST").refused("lay(0, 0, 0, 5)", NULL).refused("lay(3, 2, 0, 5)", NULL)
            .row(1, 1, 3).with("lose(1)").refused("lay(1, 1, 0, 5)", NULL);
        sentence(30, "BAD: no such SHEET, no such FORM").row(0, 0, 7).refused("lay(-1, 0, 0, 5)", BAD)
            .refused("lay(4, 0, 0, 5)", BAD).refused("lay(MIN, 0, 0, 5)", BAD).refused("lay(MAX, 0, 0, 5)", BAD)
            .refused("lay(0, -1, 0, 5)", BAD).refused("lay(0, 3, 0, 5)", BAD).refused("lay(0, MIN, 0, 5)", BAD)
            .refused("lay(0, MAX, 0, 5)", BAD);
        sentence(30, "BAD ahead of NULL").refused("lay(0, 3, 0, 5)", BAD).refused("lay(0, -1, 9, 5)", BAD)
            .refused("lay(4, 3, -1, 5)", BAD).due("count(8)", 0);
        sentence(30, "NULL ahead of CAST and INDEX").row(0, 1, 5).with("lose(0)").refused("lay(0, 2, 9, 5)", NULL)
            .refused("lay(0, 1, -1, 5)", NULL);
        sentence(30, "CAST ahead of INDEX").row(0, 0, 7).refused("lay(0, 1, 1, 5)", CAST).refused("lay(0, 2, -1, 5)", CAST);
    }

    private static void get() {
        sentence(31, "Item i of it: the first and the last").row(0, 0, 5, -6, 7).due("get(0, 0, 0)", 5)
            .due("get(0, 0, 1)", -6).due("get(0, 0, 2)", 7);
        sentence(31, "Item i of it: of most").with("sheet(3, 2, 60)", "lay(3, 2, 59, 77)").due("get(3, 2, 59)", 77)
            .refused("get(3, 2, 60)", LEAST_INT, 2);
        sentence(31, "the least int may be an item (count() 8 tells)").row(2, 2, LEAST_INT).due("get(2, 2, 0)", LEAST_INT)
            .due("count(8)", 0).due("get(2, 2, 1)", LEAST_INT).due("count(8)", 2);
        sentence(31, "what looks like a refusal and is none").row(2, 2, -2, -11, -12, -10002)
            .dueRow(2, 2, -2, -11, -12, -10002);
    }

    private static void getRefused() {
        sentence(31, "BAD: no such SHEET, no such FORM").row(0, 0, 7).refused("get(-1, 0, 0)", LEAST_INT, 0)
            .refused("get(4, 0, 0)", LEAST_INT, 0).refused("get(MIN, 0, 0)", LEAST_INT, 0)
            .refused("get(MAX, 0, 0)", LEAST_INT, 0).refused("get(0, -1, 0)", LEAST_INT, 0)
            .refused("get(0, 3, 0)", LEAST_INT, 0).refused("get(0, MIN, 0)", LEAST_INT, 0)
            .refused("get(0, MAX, 0)", LEAST_INT, 0).due("count(8)", 0);
        sentence(31, "NULL").refused("get(0, 0, 0)", LEAST_INT, 1).row(1, 1, 3).with("lose(1)")
            .refused("get(1, 1, 0)", LEAST_INT, 1);
        sentence(31, "CAST").row(0, 0, 7).row(1, 1, 8).row(2, 2, 9).refused("get(0, 1, 0)", LEAST_INT, 3)
            .refused("get(0, 2, 0)", LEAST_INT, 3).refused("get(1, 0, 0)", LEAST_INT, 3)
            .refused("get(1, 2, 0)", LEAST_INT, 3).refused("get(2, 0, 0)", LEAST_INT, 3)
            .refused("get(2, 1, 0)", LEAST_INT, 3);
        sentence(31, "INDEX").row(0, 0, 7, 8).refused("get(0, 0, -1)", LEAST_INT, 2).refused("get(0, 0, 2)", LEAST_INT, 2)
            .refused("get(0, 0, 59)", LEAST_INT, 2).refused("get(0, 0, 60)", LEAST_INT, 2)
            .refused("get(0, 0, MIN)", LEAST_INT, 2).refused("get(0, 0, MAX)", LEAST_INT, 2);
        sentence(31, "INDEX: of no items").with("sheet(0, 0, 0)").refused("get(0, 0, 0)", LEAST_INT, 2);
        sentence(31, "BAD ahead of NULL, NULL of CAST, CAST of INDEX").refused("get(0, 3, -1)", LEAST_INT, 0)
            .refused("get(0, 1, -1)", LEAST_INT, 1).row(0, 0, 7).refused("get(0, 1, -1)", LEAST_INT, 3)
            .refused("get(0, 2, 1)", LEAST_INT, 3);
    }

    private static void copy() {
        sentence(32, "n items from i on come from j on: some, and no others").row(0, 0, 1, 2, 3, 4).row(1, 0, 7, 8, 9)
            .due("copy(0, 1, 1, 0, 2)", 1).dueRow(1, 0, 2, 3, 9).dueRow(0, 0, 1, 2, 3, 4);
        sentence(32, "all of them").row(0, 1, 300, -300).row(1, 1, 0, 0).due("copy(0, 0, 1, 0, 2)", 1)
            .dueRow(1, 1, 300, -300);
        sentence(32, "to the very end").row(0, 2, 1, 2, 3).row(3, 2, 7, 8, 9).due("copy(0, 2, 3, 2, 1)", 1)
            .dueRow(3, 2, 7, 8, 3).due("copy(0, 1, 3, 1, 2)", 1).dueRow(3, 2, 7, 2, 3);
        sentence(32, "no items").row(0, 0, 1, 2).row(1, 0, 7).unchanged("copy(0, 0, 1, 0, 0)", 1)
            .unchanged("copy(0, 2, 1, 1, 0)", 1).unchanged("copy(0, 2, 0, 0, 0)", 1);
        sentence(32, "no items of none").with("sheet(0, 0, 0)", "sheet(1, 0, 0)").unchanged("copy(0, 0, 1, 0, 0)", 1)
            .unchanged("copy(0, 0, 0, 0, 0)", 1);
        sentence(32, "perhaps s, as they were: upwards").row(0, 0, 1, 2, 3, 4, 5).due("copy(0, 0, 0, 1, 4)", 1)
            .dueRow(0, 0, 1, 1, 2, 3, 4);
        sentence(32, "perhaps s, as they were: downwards").row(0, 0, 1, 2, 3, 4, 5).due("copy(0, 1, 0, 0, 4)", 1)
            .dueRow(0, 0, 2, 3, 4, 5, 5);
        sentence(32, "perhaps s, as they were: where they are").row(0, 0, 1, 2, 3).unchanged("copy(0, 0, 0, 0, 3)", 1);
        Run most = sentence(32, "sixty of them").with("sheet(0, 0, 60)", "sheet(1, 0, 60)");
        for (int i = 0; i < 60; i++) {
            most.with("lay(0, 0, " + i + ", " + (i + 1) + ")");
        }
        most.due("copy(0, 0, 1, 0, 60)", 1).due("get(1, 0, 0)", 1).due("get(1, 0, 59)", 60)
            .refused("copy(0, 0, 1, 0, 61)", INDEX).refused("copy(0, 1, 1, 0, 60)", INDEX)
            .due("copy(1, 0, 1, 1, 59)", 1).due("get(1, 0, 0)", 1).due("get(1, 0, 1)", 1).due("get(1, 0, 59)", 59);
    }

    private static void copyRefused() {
        sentence(32, "BAD: the SHEETS").row(0, 0, 1).row(3, 0, 2).refused("copy(-1, 0, 0, 0, 1)", BAD)
            .refused("copy(4, 0, 0, 0, 1)", BAD).refused("copy(0, 0, -1, 0, 1)", BAD).refused("copy(0, 0, 4, 0, 1)", BAD)
            .refused("copy(MIN, 0, 0, 0, 1)", BAD).refused("copy(MAX, 0, 0, 0, 1)", BAD)
            .refused("copy(0, 0, MIN, 0, 1)", BAD).refused("copy(0, 0, MAX, 0, 1)", BAD);
        sentence(32, "NULL: s, t").row(0, 0, 1).refused("copy(0, 0, 1, 0, 1)", NULL).refused("copy(1, 0, 0, 0, 1)", NULL)
            .refused("copy(1, 0, 2, 0, 1)", NULL).refused("copy(3, 0, 3, 0, 1)", NULL).refused("copy(0, 0, 1, 0, 0)", NULL);
        Run store = sentence(32, "STORE: unlike FORMS").row(0, 0, 1).row(1, 1, 2).row(2, 2, 3);
        for (int s = 0; s <= 2; s++) {
            for (int t = 0; t <= 2; t++) {
                if (s != t) {
                    store.refused("copy(" + s + ", 0, " + t + ", 0, 1)", STORE)
                        .refused("copy(" + s + ", 0, " + t + ", 0, 0)", STORE);
                }
            }
        }
        sentence(32, "BAD ahead of NULL").refused("copy(0, 0, 4, 0, 1)", BAD).refused("copy(-1, 0, 0, 0, 1)", BAD);
        sentence(32, "NULL ahead of STORE and INDEX").row(0, 2, 1).refused("copy(0, 5, 1, 5, 5)", NULL)
            .refused("copy(1, -1, 0, 5, -5)", NULL).row(1, 0, 1).with("lose(1)").refused("copy(0, 0, 1, 0, 1)", NULL);
        sentence(32, "STORE ahead of INDEX").row(0, 0, 1).row(1, 1, 2).refused("copy(0, 5, 1, 0, 1)", STORE)
            .refused("copy(0, 0, 1, -1, 1)", STORE).refused("copy(0, 0, 1, 0, -1)", STORE);
    }

    private static void copyIndex() {
        sentence(32, "INDEX: i below 0").row(0, 0, 1, 2).row(1, 0, 7, 8).refused("copy(0, -1, 1, 0, 1)", INDEX)
            .refused("copy(0, -1, 1, 0, 0)", INDEX).refused("copy(0, MIN, 1, 0, 1)", INDEX);
        sentence(32, "INDEX: j below 0").row(0, 0, 1, 2).row(1, 0, 7, 8).refused("copy(0, 0, 1, -1, 1)", INDEX)
            .refused("copy(0, 0, 1, -1, 0)", INDEX).refused("copy(0, 0, 1, MIN, 1)", INDEX);
        sentence(32, "INDEX: n below 0").row(0, 0, 1, 2).row(1, 0, 7, 8).refused("copy(0, 0, 1, 0, -1)", INDEX)
            .refused("copy(0, 2, 1, 2, -1)", INDEX).refused("copy(0, 0, 1, 0, MIN)", INDEX)
            .refused("copy(0, 1, 1, 1, MIN)", INDEX);
        sentence(32, "INDEX: s has not so many").row(0, 0, 1, 2).row(1, 0, 7, 8, 9).refused("copy(0, 0, 1, 0, 3)", INDEX)
            .refused("copy(0, 1, 1, 0, 2)", INDEX).refused("copy(0, 2, 1, 0, 1)", INDEX)
            .refused("copy(0, 3, 1, 0, 0)", INDEX).refused("copy(0, MAX, 1, 0, 1)", INDEX);
        sentence(32, "INDEX: t has not so many").row(0, 0, 1, 2, 3).row(1, 0, 7, 8).refused("copy(0, 0, 1, 0, 3)", INDEX)
            .refused("copy(0, 0, 1, 1, 2)", INDEX).refused("copy(0, 0, 1, 2, 1)", INDEX)
            .refused("copy(0, 0, 1, 3, 0)", INDEX).refused("copy(0, 0, 1, MAX, 1)", INDEX);
        sentence(32, "INDEX: sums that wrap around").row(0, 0, 1, 2).row(1, 0, 7, 8).refused("copy(0, 1, 1, 0, MAX)", INDEX)
            .refused("copy(0, 0, 1, 1, MAX)", INDEX).refused("copy(0, MAX, 1, 0, MAX)", INDEX)
            .refused("copy(0, 0, 1, MAX, MAX)", INDEX).refused("copy(0, MAX, 0, MAX, 2)", INDEX)
            .refused("copy(0, MIN, 1, 0, MIN)", INDEX);
        sentence(32, "INDEX: in a SHEET itself").row(0, 0, 1, 2, 3).refused("copy(0, 0, 0, 1, 3)", INDEX)
            .refused("copy(0, 1, 0, 0, 3)", INDEX);
    }

    private static void write() {
        sentence(33, "SHEETS 0 .. 3, and beyond").with("sheet(0, 0, 1)", "sheet(3, 2, 1)", "tide(0, 7)").due("write(0)", 1)
            .due("write(3)", 1).dueRow(0, 0, 7).dueRow(3, 2, 7).with("tide(0, 9)").refused("write(-1)", BAD)
            .refused("write(4)", BAD).refused("write(MIN)", BAD).refused("write(MAX)", BAD);
        sentence(33, "NULL: the SHEET is LOST").refused("write(0)", NULL).refused("write(3)", NULL).with("sheet(1, 1, 4)",
            "lose(1)").refused("write(1)", NULL);
        sentence(33, "as many as there are items: none, and one").with("sheet(0, 2, 0)", "tide(0, 7)")
            .unchanged("write(0)", 0).with("sheet(0, 2, 1)").due("write(0)", 1).dueRow(0, 2, 7);
        sentence(33, "as many as there are hours to the end of the day").with("set(0, 3)", "tide(0, 1)", "tide(1, -2)",
            "tide(2, 3)", "tide(3, -4)", "tide(4, 5)").row(0, 2, 99, 99, 99, 99, 99, 99).due("write(0)", 4)
            .dueRow(0, 2, 1, -2, 3, -4, 99, 99).row(0, 2, 99, 99, 99, 99).due("write(0)", 4).dueRow(0, 2, 1, -2, 3, -4)
            .row(0, 2, 99, 99, 99).due("write(0)", 3).dueRow(0, 2, 1, -2, 3);
        sentence(33, "the shortest day").with("set(0, 1)", "tide(0, 8)", "tide(1, 9)", "tide(2, 10)").row(1, 1, 5, 5, 5)
            .due("write(1)", 2).dueRow(1, 1, 8, 9, 5);
        Run longest = sentence(33, "the longest day").with("set(0, 24)", "sheet(2, 1, 60)", "lay(2, 1, 25, 77)");
        for (int hour = 0; hour <= 24; hour++) {
            longest.with("tide(" + hour + ", " + (hour - 40) + ")");
        }
        longest.due("write(2)", 25);
        for (int hour = 0; hour <= 24; hour++) {
            longest.due("get(2, 1, " + hour + ")", hour - 40);
        }
        longest.due("get(2, 1, 25)", 77).due("get(2, 1, 26)", 0);
        sentence(33, "TIPS, of STONES as well").people("5y").stones("51").with("carry(0, 0, 2)", "tide(1, 3)", "tide(2, 1)",
            "sheet(0, 0, 4)").due("write(0)", 4).dueRow(0, 0, 0, 3, 11, 10);
    }

    private static void writeLowestBits() {
        Run above = sentence(33, "TIPS above a byte come with its lowest bits").people("9y").stones(NINE_NINES);
        Run below = sentence(33, "TIPS below a byte come with its lowest bits").people("9n").stones(NINE_NINES);
        for (int s = 0; s <= 8; s++) {
            above.with("carry(0, " + s + ", 5)");
            below.with("carry(0, " + s + ", 5)");
        }
        above.with("set(0, 9)", "tide(2, 37)", "tide(3, -7)", "tide(9, 50)", "sheet(0, 0, 10)").due("write(0)", 10)
            .dueRow(0, 0, 0, 45, 127, -128, -76, -31, 14, 59, 104, -57);
        above.with("sheet(1, 1, 10)").due("write(1)", 10).dueRow(1, 1, 0, 45, 127, 128, 180, 225, 270, 315, 360, 455);
        below.with("set(0, 9)", "tide(2, -38)", "tide(3, 6)", "tide(9, -50)", "sheet(0, 0, 10)").due("write(0)", 10)
            .dueRow(0, 0, 0, -45, -128, 127, 76, 31, -14, -59, -104, 57);
        below.with("sheet(2, 2, 10)").due("write(2)", 10)
            .dueRow(2, 2, 0, -45, -128, -129, -180, -225, -270, -315, -360, -455);
    }

    private static void count() {
        sentence(34, "0 to 8, and beyond").people("5y").stones("50").refused("count(-1)", BAD).refused("count(9)", BAD)
            .refused("count(MIN)", BAD).refused("count(MAX)", BAD).due("count(0)", 1).due("count(8)", 0);
        sentence(34, "7 HOURS: the least and the greatest").with("set(0, 1)").due("count(7)", 1).with("set(0, 24)")
            .due("count(7)", 24);
        sentence(34, "0 PEOPLE, 1 STONES: none with a FAULT, but 2, 3 bytes").people("5yx").stones("50x").due("count(0)", 0)
            .due("count(1)", 0).due("count(2)", 3).due("count(3)", 3);
        sentence(34, "5 those against the LAW: none, some, all").people("5y").stones("50").due("count(5)", 0)
            .with("carry(0, 0, 1)").due("count(5)", 0).with("carry(0, 0, 1)").due("count(5)", 1).with("wipe(0)")
            .due("count(5)", 2).due("count(4)", 2);
        sentence(34, "6 STONES that lie on SHELVES at the end of the day: by then").people("5y").stones("53")
            .with("carry(0, 0, 1)", "set(0, 4)").due("count(6)", 1).with("set(0, 3)").due("count(6)", 0);
        sentence(34, "6 STONES that lie on SHELVES: as much as LOAD, and more").people("5y").stones("5040")
            .with("carry(0, 0, 1)", "carry(0, 1, 1)", "set(1, 9)").due("count(6)", 2).with("set(1, 8)").due("count(6)", 0);
    }

    private static void countAtMost() {
        Run most = sentence(34, "as many as there can be").people("9y9n9y9n9y9n9y9n").stones(NINE_NINES);
        for (int s = 0; s <= 8; s++) {
            most.with("carry(" + s % 8 + ", " + s + ", 5)").due("count(6)", s + 1).due("count(4)", s + 1);
        }
        most.times(21, "carry(0, 0, 1)").due("count(0)", 8).due("count(1)", 9).due("count(2)", 16).due("count(3)", 18)
            .due("count(4)", 30).due("count(5)", 21).due("count(6)", 9).with("type(1, 49)", "type(1, 49)")
            .due("count(3)", 20).due("count(1)", 0).due("count(5)", 30).due("count(6)", 0);
    }

    private static void countFindings() {
        sentence(34, "8 the number of the latest FINDING: each of five").row(0, 0, 1).row(1, 1, 2).due("count(8)", 0)
            .due("lose(3)", NULL).due("count(8)", 1).due("lay(0, 0, 1, 5)", INDEX).due("count(8)", 2)
            .due("lay(0, 1, 0, 5)", CAST).due("count(8)", 3).due("copy(0, 0, 1, 0, 1)", STORE).due("count(8)", 4)
            .due("sheet(0, 0, -1)", SIZE).due("count(8)", 5).due("lose(2)", NULL).due("count(8)", 1);
        sentence(34, "8: what is no FINDING leaves it").times(30, "carry(0, 0, 1)").due("sheet(0, 0, -1)", SIZE)
            .refused("carry(0, 0, 1)", FULL).refused("carry(8, 0, 1)", BAD).refused("sheet(4, 0, 1)", BAD)
            .refused("sheet(0, 0, 61)", BAD).refused("get(4, 0, 0)", LEAST_INT, 0).refused("tip(25)", BAD_NUMBER)
            .due("count(8)", 5);
        sentence(34, "8: what goes well leaves it").due("lose(0)", NULL).row(0, 0, 1, 2).due("get(0, 0, 1)", 2)
            .due("copy(0, 0, 0, 1, 1)", 1).due("write(0)", 2).due("lose(0)", 2).due("digest()", -1582163528218712639L)
            .due("count(8)", 1);
        sentence(34, "8: an answer of the same number is no FINDING").with("tide(0, -11)").due("tip(0)", -11)
            .due("tide(0, -15)", -11).due("tide(0, 0)", -15).due("count(8)", 0);
    }

    private static void digest() {
        // By hand: 12 HOURS, -1 where there is NONE, and 0 for all else.
        sentence(35, "of a new object").due("digest()", -1582163528218712639L);
        // By hand: 1 1 2 2 2 1 1 12, -1 -1, 1, 3 0 3, 3 2 0, 3 -1, -1 11, 15 11, 3 0 0, 3, 11 3 1, 3, 1, 0 0, 3 0, 0 -1,
        // 11 -1, 1 1 0.
        sentence(35, "of one of the PEOPLE, a STONE, two CARRIES").people("3y").stones("32").with("tide(12, -4)",
            "carry(0, 0, 5)", "carry(0, 0, 1)").due("digest()", 1208152893916066158L);
        sentence(35, "refused calls and FINDINGS are not in it").refused("undo()", NOT).due("lose(0)", NULL)
            .due("sheet(0, 0, -1)", SIZE).due("tide(25, 0)", BAD_NUMBER).due("digest()", -1582163528218712639L);
        sentence(35, "SHEETS are not in it").row(0, 2, 1, 2, 3).due("digest()", -1582163528218712639L);
        Run two = sentence(35, "game(2, 0 and 1), not of one turn").people("6y4n").stones("106040").due("game(1, 1)", 1)
            .due("game(2, 1)", 2);
        two.due("digest()", digestOf(two.branch()));
        two.anew().people("9y1n").stones("1090").due("game(2, 1)", 1).due("game(3, 1)", 0);
        two.due("digest()", digestOf(two.branch()));
        Run asked = sentence(35, "it changes nothing").people("3y4n").stones("3241").row(0, 0, 5)
            .with("carry(0, 0, 5)", "carry(1, 0, 1)");
        asked.unchanged("digest()", digestOf(asked.branch()));
    }

    private static void digestWraps() {
        String[] people = {"", "9y", "1y2n3y4n5y6n7y8n", "1y2n3", "9y9y9n9n"};
        String[] stones = {"", "90", "102132435465768798", "1020304050607080901", "909152433425"};
        Run wraps = sentence(35, "as longs that wrap");
        Run most = sentence(35, "of thirty CARRIES, as longs that wrap");
        for (int k = 0; k < people.length; k++) {
            for (int hours : new int[] {1, 2, 3, 4, 12, 24}) {
                wraps.anew().people(people[k]).stones(stones[k]).with("set(0, " + hours + ")", "set(1, 9)", "tide(3, 5)",
                    "tide(12, -20)", "carry(0, 0, 5)", "carry(1, 0, 1)", "carry(2, 1, 1)", "carry(1, 2, 5)");
                wraps.due("digest()", digestOf(wraps.branch()));
            }
            most.anew().people(people[k]).stones(stones[k]);
            for (int c = 0; c < 30; c++) {
                most.with("carry(" + c % 8 + ", " + c * 7 % 9 + ", " + (c % 5 + 1) + ")");
            }
            most.due("digest()", digestOf(most.branch()));
        }
    }

    /** The digest from the single answers, in numbers that do not wrap until the end. */
    private static long digestOf(Run run) {
        BigInteger h = BigInteger.valueOf(17);
        h = each(h, run, "count(%d)", 8);
        h = each(h, run, "fault(%d)", 2);
        h = each(h, run, "judged()", 1);
        for (int p = 0; p < run.askedNow("count(0)"); p++) {
            h = each(h, run, "person(" + p + ", %d)", 3);
        }
        for (int s = 0; s < run.askedNow("count(1)"); s++) {
            h = each(h, run, "stone(" + s + ", %d)", 3);
        }
        for (int c = 0; c < run.askedNow("count(4)"); c++) {
            h = each(h, run, "laid(" + c + ")", 1);
            h = each(h, run, "without(" + c + ")", 1);
        }
        long end = run.askedNow("count(7)");
        for (String call : new String[] {"tip(3)", "tip(" + end + ")", "shelf(0, 5, " + end + ")",
            "shelf(1, 1, " + end + ")", "slid(" + end + ")", "when()"}) {
            h = each(h, run, call, 1);
        }
        h = each(h, run, "result(%d)", 3);
        h = each(h, run, "settled()", 1);
        h = each(h, run, "doubles()", 1);
        for (String call : new String[] {"fewest(%d)", "most(%d)", "hold(%d)", "game(2, %d)"}) {
            h = each(h, run, call, 2);
        }
        return each(h, run, "secret(3, %d)", 3).longValue();
    }

    private static BigInteger each(BigInteger before, Run run, String call, int n) {
        BigInteger h = before;
        for (int i = 0; i < n; i++) {
            long answer = run.askedNow(String.format(call, i));
            h = h.multiply(BigInteger.valueOf(31)).add(BigInteger.valueOf(answer));
        }
        return h;
    }
}
