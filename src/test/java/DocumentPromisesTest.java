import java.util.TreeSet;

/** The promises 1 to 35, sentence by sentence in the document's own words. */
public final class DocumentPromisesTest extends Quotes {
    private static final int PROMISES = 35;

    public static void main(String[] args) {
        newObject();
        typeAndWipe();
        fault();
        personAndStone();
        setAndTide();
        carry();
        read();
        undoAndJudged();
        laid();
        tipAndShelf();
        slidAndWhen();
        resultAndWithout();
        settledAndDoubles();
        fewest();
        mostAndHold();
        game();
        armAndSecret();
        sheetAndLose();
        layAndGet();
        copy();
        write();
        count();
        digest();
        for (int promise = 1; promise <= PROMISES; promise++) {
            allQuoted(promise, DOCUMENT.sentences(promise));
        }
        if (!DOCUMENT.signatures().keySet().equals(numbers())) {
            tell("the promises are " + DOCUMENT.signatures().keySet());
        }
        endQuotes("DocumentPromisesTest", 1, PROMISES);
    }

    private static TreeSet<Integer> numbers() {
        TreeSet<Integer> numbers = new TreeSet<>();
        for (int promise = 1; promise <= PROMISES; promise++) {
            numbers.add(promise);
        }
        return numbers;
    }

    /** The day that most of the promises are shown by: 4 for yes at hour 2 on arm 5, 2 for no at hour 1 on arm 3. */
    private static Run day(Run run) {
        return run.people("5y3n").stones("4120").with("carry(0, 0, 5)", "carry(1, 1, 3)", "tide(2, -1)");
    }

    private static void newObject() {
        Run run = says(1, "Empty texts, no CARRIES; all SHEETS are LOST.").due("count(2)", 0).due("count(3)", 0)
            .due("wipe(0)", 0).due("wipe(1)", 0).due("count(4)", 0).due("undo()", NOT).due("laid(0)", BAD);
        for (int s = 0; s <= 3; s++) {
            run.due("lose(" + s + ")", NULL).due("get(" + s + ", 0, 0)", LEAST_INT).due("count(8)", 1);
        }
    }

    private static void typeAndWipe() {
        says(2, "A byte (0 to 255) comes behind a text: how many.").due("type(0, '7')", 1).due("type(0, 'n')", 2)
            .due("person(0, 0)", 7).due("type(1, '3')", 1).due("type(1, '4')", 2).due("stone(0, 1)", 4)
            .due("type(0, 0)", 3).due("type(0, 255)", 4).due("fault(0)", 2).due("count(3)", 2);
        says(2, "BAD; FULL.").people("5y").refused("type(2, 'y')", BAD).refused("type(-1, 'y')", BAD)
            .refused("type(0, -1)", BAD).refused("type(1, 256)", BAD).people("5y5y5y5y5y5y5y").refused("type(0, '5')", FULL)
            .refused("type(0, 256)", BAD).stones("50505050505050505050").refused("type(1, '5')", FULL);
        says(3, "A text is empty: how many bytes it had.").people("5y3n").stones("412").due("wipe(0)", 4)
            .due("count(2)", 0).due("count(0)", 0).due("count(3)", 3).due("wipe(1)", 3).due("count(3)", 0)
            .due("fault(1)", NONE).due("wipe(1)", 0).due("type(1, '4')", 1);
        says(3, "BAD.").people("5y").stones("41").refused("wipe(2)", BAD).refused("wipe(-1)", BAD);
    }

    private static void fault() {
        says(4, "The FAULT of a text; NONE.").due("fault(0)", NONE).people("5").due("fault(0)", 1).people("n")
            .due("fault(0)", NONE).people("n").due("fault(0)", 2).due("fault(1)", NONE).stones("4120x").due("fault(1)", 4);
        says(4, "BAD.").people("x").stones("x").refused("fault(2)", BAD).refused("fault(-1)", BAD);
    }

    private static void personAndStone() {
        day(says(5, "Of one of the PEOPLE: STRENGTH (what = 0), SIDE (1), the hour at which the last STONE was laid (2; 0:"
            + " none).")).due("person(0, 0)", 5).due("person(0, 1)", 0).due("person(0, 2)", 2).due("person(1, 0)", 3)
            .due("person(1, 1)", 1).due("person(1, 2)", 1).with("undo()").due("person(1, 2)", 0).with("carry(0, 1, 3)")
            .due("person(0, 2)", 3);
        day(says(5, "BAD.")).refused("person(2, 0)", BAD).refused("person(-1, 0)", BAD).refused("person(0, 3)", BAD)
            .refused("person(0, -1)", BAD);
        day(says(6, "Of a STONE: WEIGHT (what = 0), WAY (1), who carried it (2; NONE).")).stones("93").due("stone(0, 0)", 4)
            .due("stone(0, 1)", 1).due("stone(0, 2)", 0).due("stone(1, 0)", 2).due("stone(1, 1)", 0).due("stone(1, 2)", 1)
            .due("stone(2, 0)", 9).due("stone(2, 1)", 3).due("stone(2, 2)", NONE);
        day(says(6, "BAD.")).refused("stone(2, 0)", BAD).refused("stone(-1, 0)", BAD).refused("stone(0, 3)", BAD)
            .refused("stone(0, -1)", BAD);
    }

    private static void setAndTide() {
        day(says(7, "HOURS (what = 0), LOAD (1): what it was.")).due("set(0, 1)", 12).due("laid(0)", NONE).due("laid(1)", 1)
            .due("set(0, 2)", 1).due("laid(0)", 2).due("count(7)", 2).due("set(1, 3)", 99).due("slid(2)", 1)
            .due("set(1, 4)", 3).due("slid(2)", 0).due("set(1, 4)", 4);
        day(says(7, "BAD.")).refused("set(2, 5)", BAD).refused("set(-1, 5)", BAD).refused("set(0, 0)", BAD)
            .refused("set(0, 25)", BAD).refused("set(1, 0)", BAD).refused("set(1, 100)", BAD);
        day(says(8, "TIDE of an hour, as any number: what it was.")).due("tide(2, 3)", -1).due("tip(2)", 17)
            .due("tide(2, -50)", 3).due("tip(2)", -36).due("tide(2, 0)", -50).due("tide(0, -2)", 0).due("tide(0, 50)", -2)
            .due("tide(24, 1)", 0).due("tip(24)", 15);
        day(says(8, "BAD: -10002.")).refused("tide(25, 0)", -10002).refused("tide(-1, 0)", -10002)
            .refused("tide(2, 51)", -10002).refused("tide(2, -51)", -10002);
    }

    private static void carry() {
        Run more = says(9, "A CARRY more: how many.").people("5y").stones("5060").due("carry(0, 0, 4)", 1).due("tip(12)", 20)
            .due("carry(0, 1, 4)", 2).due("tip(12)", 20);
        for (int n = 3; n <= 30; n++) {
            more.due("carry(7, 8, 5)", n);
        }
        day(says(9, "BAD; FULL.")).refused("carry(8, 0, 1)", BAD).refused("carry(-1, 0, 1)", BAD)
            .refused("carry(0, 9, 1)", BAD).refused("carry(0, -1, 1)", BAD).refused("carry(0, 0, 0)", BAD)
            .refused("carry(0, 0, 6)", BAD).times(28, "carry(0, 0, 5)").refused("carry(0, 0, 5)", FULL)
            .refused("carry(0, 0, 6)", BAD);
    }

    private static void read() {
        says(10, "CARRIES by a SHEET: its items, three for each (PERSON, STONE, ARM), as many as are whole, as long as each"
            + " may be: how many.").people("5y3n").stones("4120").row(0, 0, 0, 0, 5, 1, 1, 3, 0, 1).due("read(0)", 2)
            .due("count(4)", 2).due("tip(12)", 14).due("stone(1, 2)", 1).row(0, 2, 0, 0, 5, 0, 0, 6, 0, 0, 5)
            .due("read(0)", 1).due("count(4)", 3).row(0, 1, 8, 0, 1, 0, 0, 1).due("read(0)", 0).with("sheet(3, 0, 2)")
            .due("read(3)", 0).times(26, "carry(0, 0, 1)").row(0, 1, 0, 0, 1, 0, 0, 2).due("read(0)", 1)
            .due("count(4)", 30).due("read(0)", 0);
        says(10, "BAD; NULL.").row(0, 0, 0, 0, 5).refused("read(4)", BAD).refused("read(-1)", BAD).refused("read(1)", NULL)
            .with("lose(0)").refused("read(0)", NULL);
    }

    private static void undoAndJudged() {
        day(says(11, "The last CARRY is undone: how many are left.")).due("undo()", 1).due("tip(12)", 20)
            .due("stone(1, 2)", NONE).refused("laid(1)", BAD).due("undo()", 0).due("tip(12)", 0).due("count(4)", 0);
        says(11, "NOT: none.").refused("undo()", NOT).with("carry(0, 0, 1)", "undo()").refused("undo()", NOT);
        day(says(12, "JUDGED; NONE.")).due("judged()", NONE).with("carry(1, 0, 1)", "carry(0, 0, 1)").due("judged()", 2)
            .with("set(0, 1)").due("judged()", 0).with("set(0, 2)", "undo()", "undo()").due("judged()", NONE);
    }

    private static void laid() {
        day(says(13, "The hour at which the STONE of a CARRY was laid; NONE: it is against the LAW.")).due("laid(0)", 2)
            .due("laid(1)", 1).with("carry(0, 0, 1)").due("laid(2)", NONE).with("set(0, 1)").due("laid(0)", NONE)
            .due("laid(1)", 1).with("set(1, 1)", "set(0, 2)").due("slid(2)", 2).due("laid(0)", 2).due("laid(1)", 1);
        day(says(13, "BAD.")).refused("laid(2)", BAD).refused("laid(-1)", BAD).refused("laid(30)", BAD);
    }

    private static void tipAndShelf() {
        day(says(14, "TIP at an hour, as any number.")).due("tip(0)", 0).due("tip(1)", -6).due("tip(2)", 13).due("tip(3)", 14)
            .due("tip(12)", 14).due("tip(24)", 14).with("tide(1, 4)").due("tip(1)", -2).with("tide(1, -5)")
            .due("tip(1)", -11).due("count(8)", 0);
        day(says(14, "BAD: -10002.")).refused("tip(25)", -10002).refused("tip(-1)", -10002);
        day(says(15, "What lies on a SHELF of a SIDE at an hour: WEIGHT.")).due("shelf(0, 5, 1)", 0).due("shelf(0, 5, 2)", 4)
            .due("shelf(0, 5, 24)", 4).due("shelf(1, 3, 0)", 0).due("shelf(1, 3, 1)", 2).due("shelf(0, 3, 24)", 0)
            .due("shelf(1, 5, 24)", 0).due("shelf(0, 4, 24)", 0).with("set(1, 3)").due("shelf(0, 5, 2)", 0)
            .due("shelf(1, 3, 2)", 2);
        day(says(15, "BAD.")).refused("shelf(2, 3, 1)", BAD).refused("shelf(-1, 3, 1)", BAD).refused("shelf(1, 0, 1)", BAD)
            .refused("shelf(1, 6, 1)", BAD).refused("shelf(1, 3, 25)", BAD).refused("shelf(1, 3, -1)", BAD);
    }

    private static void slidAndWhen() {
        day(says(16, "How many STONES have slid by an hour.")).due("slid(24)", 0).with("set(1, 3)").due("slid(1)", 0)
            .due("slid(2)", 1).with("set(1, 1)").due("slid(0)", 0).due("slid(1)", 1).due("slid(2)", 2).due("slid(24)", 2);
        day(says(16, "BAD.")).with("set(1, 1)").refused("slid(25)", BAD).refused("slid(-1)", BAD);
        day(says(17, "WHEN; NONE.")).due("when()", 2).with("tide(2, -14)").due("when()", 3).with("set(0, 2)")
            .due("when()", NONE).with("tide(2, -13)").due("when()", 2).with("tide(0, 1)").due("when()", 0);
    }

    private static void resultAndWithout() {
        day(says(18, "RESULT, as any number.")).due("result(0)", 14).due("result(1)", 2).due("result(2)", 0)
            .with("tide(12, -16)", "set(1, 3)").due("result(0)", -22).due("result(1)", -2).due("result(2)", -1)
            .due("count(8)", 0).with("set(0, 2)").due("result(0)", -7);
        day(says(18, "BAD: -10002.")).refused("result(3)", -10002).refused("result(-1)", -10002);
        day(says(19, "WITHOUT a CARRY, as any number.")).with("carry(1, 0, 5)", "carry(0, 1, 1)").due("without(0)", -6)
            .due("without(1)", 20 + 2).due("without(2)", 14).due("without(3)", 14).with("tide(12, 4)")
            .due("without(0)", -2).due("count(8)", 0).due("tip(12)", 18);
        day(says(19, "BAD: -10002.")).refused("without(2)", -10002).refused("without(-1)", -10002);
    }

    private static void settledAndDoubles() {
        day(says(20, "SETTLED; NONE.")).due("settled()", 2).with("tide(6, -14)").due("settled()", 7).with("tide(12, -14)")
            .due("settled()", NONE).with("tide(12, -15)").due("settled()", 12).with("set(0, 1)").due("settled()", 1);
        day(says(21, "DOUBLES, as bits.")).due("doubles()", 0).with("carry(0, 1, 1)").due("doubles()", 2)
            .with("carry(7, 8, 1)", "carry(6, 8, 1)", "carry(1, 1, 1)").due("doubles()", 258);
    }

    private static void fewest() {
        day(says(22, "FEWEST: how many (what = 0), as bits (1); NONE.")).stones("305060").due("fewest(0)", 0)
            .due("fewest(1)", 0).with("tide(12, -28)").due("tip(12)", -14).due("fewest(0)", 1).due("fewest(1)", 4)
            .with("tide(12, -29)").due("fewest(1)", 8).with("tide(12, -39)").due("fewest(0)", 2).due("fewest(1)", 12)
            .with("wipe(0)").due("fewest(0)", NONE).due("fewest(1)", NONE);
        day(says(22, "BAD.")).refused("fewest(2)", BAD).refused("fewest(-1)", BAD);
    }

    private static void mostAndHold() {
        day(says(23, "MOST of a SIDE.")).due("most(0)", 6).due("most(1)", 2).with("set(0, 2)").due("most(0)", 4)
            .with("set(0, 1)").due("most(0)", 2).people("9n").due("most(1)", 2).with("set(0, 3)").due("most(1)", 6);
        day(says(23, "BAD.")).refused("most(2)", BAD).refused("most(-1)", BAD);
        day(says(24, "HOLD; NONE.")).due("hold(0)", 0).due("hold(1)", 1).people("9n").due("hold(1)", 2).with("wipe(0)")
            .due("hold(0)", NONE).due("hold(1)", NONE);
        day(says(24, "BAD.")).refused("hold(2)", BAD).refused("hold(-1)", BAD);
    }

    private static void game() {
        day(says(25, "TURNS: what it is (what = 0), the first STONE (1; NONE), as any number.")).due("game(4, 0)", 14)
            .due("game(4, 1)", NONE).stones("30505030").due("game(1, 0)", 14 + 25).due("game(1, 1)", 3)
            .due("game(2, 0)", 14 + 25 - 15).due("game(3, 0)", 14 + 25 - 15 + 25).due("game(3, 1)", 3)
            .due("game(4, 0)", 14 + 15 - 15 + 25).due("game(4, 1)", 2)
            .with("tide(12, -26)").due("game(2, 0)", -2).due("game(2, 1)", 3).due("count(8)", 0);
        day(says(25, "BAD: -10002.")).refused("game(0, 0)", -10002).refused("game(5, 0)", -10002)
            .refused("game(1, 2)", -10002).refused("game(1, -1)", -10002);
    }

    private static void armAndSecret() {
        says(26, "ARM of one (0 to 7) in the SECRET: what it was.").due("arm(0, 5)", 1).due("arm(0, 0)", 5).due("arm(0, 2)", 0)
            .due("arm(7, 3)", 1).due("arm(7, 3)", 3).people("4y").due("secret(8, 0)", 1).due("secret(4, 0)", 0);
        says(26, "BAD.").refused("arm(8, 1)", BAD).refused("arm(-1, 1)", BAD).refused("arm(0, 6)", BAD)
            .refused("arm(0, -1)", BAD);
        day(says(27, "WAYS: how many (what = 0), yes in all (1), no in all (2), as bits.")).due("secret(8, 0)", 1)
            .due("secret(8, 1)", 3).due("secret(8, 2)", 0).due("secret(2, 1)", 1).due("secret(2, 2)", 2)
            .due("secret(-3, 0)", 1).due("secret(-3, 2)", 2).due("secret(1, 0)", 0).due("secret(1, 1)", 0).people("8y")
            .due("secret(8, 0)", 2).due("secret(8, 1)", 0).due("secret(0, 0)", 3).due("secret(10, 1)", 5)
            .due("secret(10, 2)", 2);
        day(says(27, "BAD.")).refused("secret(1000, 0)", BAD).refused("secret(-1000, 0)", BAD).refused("secret(0, 3)", BAD)
            .refused("secret(0, -1)", BAD);
    }

    private static void sheetAndLose() {
        says(28, "A SHEET is a new row of a FORM with n items: n.").due("sheet(0, 1, 2)", 2).dueRow(0, 1, 0, 0)
            .with("lay(0, 1, 1, 7)").due("sheet(0, 2, 3)", 3).dueRow(0, 2, 0, 0, 0).due("sheet(3, 0, 60)", 60)
            .due("sheet(3, 0, 0)", 0).dueRow(3, 0);
        says(28, "BAD: SHEET, FORM, above 60; SIZE.").row(0, 1, 7).refused("sheet(4, 0, 1)", BAD)
            .refused("sheet(-1, 0, 1)", BAD).refused("sheet(0, 3, 1)", BAD).refused("sheet(0, -1, 1)", BAD)
            .refused("sheet(0, 0, 61)", BAD).refused("sheet(0, 0, -1)", SIZE).refused("sheet(4, 0, -1)", BAD)
            .dueRow(0, 1, 7);
        says(29, "It is LOST: how many items it had.").row(0, 0, 7, 8).row(1, 1, 9).due("lose(0)", 2).due("read(0)", NULL)
            .dueRow(1, 1, 9).due("lose(1)", 1).with("sheet(2, 2, 0)").due("lose(2)", 0).due("lose(2)", NULL);
        says(29, "BAD; NULL.").row(0, 0, 7).refused("lose(4)", BAD).refused("lose(-1)", BAD).refused("lose(1)", NULL)
            .with("lose(0)").refused("lose(0)", NULL);
    }

    private static void layAndGet() {
        says(30, "Item i, treated as of a FORM, becomes v (the lowest bits that it has): 1.").row(0, 0, 1, 2, 3)
            .due("lay(0, 0, 1, -9)", 1).dueRow(0, 0, 1, -9, 3).due("lay(0, 0, 0, 511)", 1).due("lay(0, 0, 2, 128)", 1)
            .dueRow(0, 0, -1, -9, -128).row(1, 1, 0).due("lay(1, 1, 0, 65537)", 1).dueRow(1, 1, 1).row(2, 2, 0)
            .due("lay(2, 2, 0, MIN)", 1).dueRow(2, 2, LEAST_INT);
        says(30, "BAD; NULL; CAST; INDEX.").row(0, 0, 7).refused("lay(4, 0, 0, 5)", BAD).refused("lay(-1, 0, 0, 5)", BAD)
            .refused("lay(0, 3, 0, 5)", BAD).refused("lay(1, -1, 0, 5)", BAD).refused("lay(1, 2, 9, 5)", NULL)
            .refused("lay(0, 2, 9, 5)", CAST).refused("lay(0, 0, 1, 5)", INDEX).refused("lay(0, 0, -1, 5)", INDEX);
        says(31, "Item i of it.").row(0, 0, 5, -128, 127).due("get(0, 0, 0)", 5).due("get(0, 0, 1)", -128)
            .due("get(0, 0, 2)", 127).row(3, 2, -2, -12).due("get(3, 2, 0)", -2).due("get(3, 2, 1)", -12);
        says(31, "BAD: the least int; so are NULL, CAST, INDEX (count() 8 tells).").row(0, 2, LEAST_INT)
            .due("get(0, 2, 0)", LEAST_INT).due("count(8)", 0).refused("get(4, 2, 0)", LEAST_INT, 0)
            .refused("get(-1, 2, 0)", LEAST_INT, 0).refused("get(0, 3, 0)", LEAST_INT, 0)
            .refused("get(1, -1, 0)", LEAST_INT, 0).refused("get(1, 0, 9)", LEAST_INT, 1)
            .refused("get(0, 0, 9)", LEAST_INT, 3).refused("get(0, 2, 1)", LEAST_INT, 2)
            .refused("get(0, 2, -1)", LEAST_INT, 2);
    }

    private static void copy() {
        says(32, "n items of SHEET s, from i on, come to SHEET t (perhaps s, as they were), from j on: 1.")
            .row(0, 0, 1, 2, 3, 4).row(1, 0, 7, 8, 9).due("copy(0, 2, 1, 1, 2)", 1).dueRow(1, 0, 7, 3, 4)
            .dueRow(0, 0, 1, 2, 3, 4).due("copy(0, 0, 0, 1, 3)", 1).dueRow(0, 0, 1, 1, 2, 3).due("copy(0, 1, 0, 0, 3)", 1)
            .dueRow(0, 0, 1, 2, 3, 3).due("copy(0, 4, 1, 3, 0)", 1).dueRow(1, 0, 7, 3, 4);
        says(32, "BAD: the SHEETS; NULL: s, t; STORE; INDEX: below 0, not so many.").row(0, 0, 1, 2).row(1, 0, 7)
            .row(2, 1, 9).refused("copy(4, 0, 0, 0, 1)", BAD).refused("copy(0, 0, 4, 0, 1)", BAD)
            .refused("copy(-1, 0, 0, 0, 1)", BAD).refused("copy(0, 0, -1, 0, 1)", BAD).refused("copy(3, 0, 4, 0, 1)", BAD)
            .refused("copy(3, 0, 0, 0, 1)", NULL).refused("copy(0, 9, 3, 0, 1)", NULL)
            .refused("copy(0, 9, 2, 0, 1)", STORE).refused("copy(0, -1, 1, 0, 1)", INDEX)
            .refused("copy(0, 0, 1, -1, 1)", INDEX).refused("copy(0, 0, 1, 0, -1)", INDEX)
            .refused("copy(0, 0, 1, 0, 2)", INDEX).refused("copy(0, 2, 1, 0, 1)", INDEX)
            .refused("copy(0, 0, 1, 1, 1)", INDEX).dueRow(1, 0, 7);
    }

    private static void write() {
        day(says(33, "TIPS at hours 0 on come to a SHEET from item 0 on, as many as there are items and hours to the end of"
            + " the day: how many.")).row(0, 2, 99, 99, 99, 99, 99, 99).with("set(0, 3)").due("write(0)", 4)
            .dueRow(0, 2, 0, -6, 13, 14, 99, 99).with("sheet(0, 1, 3)").due("write(0)", 3).dueRow(0, 1, 0, -6, 13)
            .with("sheet(0, 0, 4)", "carry(0, 1, 5)", "undo()", "tide(2, -1)").due("write(0)", 4).dueRow(0, 0, 0, -6, 13, 14)
            .with("sheet(0, 0, 0)").due("write(0)", 0);
        says(33, "BAD; NULL.").row(0, 0, 7).with("tide(0, 5)").refused("write(4)", BAD).refused("write(-1)", BAD)
            .refused("write(1)", NULL).with("lose(0)").refused("write(0)", NULL);
    }

    private static void count() {
        Run counts = day(says(34, "0 PEOPLE, 1 STONES, 2, 3 bytes of texts, 4 CARRIES, 5 those against the LAW, 6 STONES that"
            + " lie on SHELVES at the end of the day, 7 HOURS, 8 the number of the latest FINDING (0 before any)."));
        counts.people("9y").with("carry(0, 0, 1)", "carry(1, 0, 1)", "carry(2, 0, 1)", "set(1, 3)", "set(0, 9)");
        int[] want = {3, 2, 6, 4, 5, 3, 1, 9, 0};
        for (int what = 0; what < want.length; what++) {
            counts.due("count(" + what + ")", want[what]);
        }
        counts.due("lose(0)", NULL).due("count(8)", 1).due("sheet(0, 0, -1)", SIZE).due("count(8)", 5).people("9")
            .due("count(0)", 0).due("count(2)", 7).due("count(5)", 5).due("count(6)", 0);
        day(says(34, "BAD.")).refused("count(9)", BAD).refused("count(-1)", BAD);
    }

    /** h is 17; h becomes 31 h and each of these, as longs that wrap. */
    private static long digestOf(long... parts) {
        long h = 17;
        for (long part : parts) {
            h = 31 * h + part;
        }
        return h;
    }

    private static void digest() {
        Run run = says(35, "h is 17; h becomes 31 h and each of: count() 0 to 7; of texts fault(); judged(); of PEOPLE person()"
            + " 0 to 2; of STONES stone() 0 to 2; of CARRIES laid(), without(); tip() at 3, at the end of the day,"
            + " shelf(0, 5), shelf(1, 1), slid() there, when(), result() 0 to 2, settled(), doubles(), fewest() 0, 1,"
            + " most() 0, 1, hold() 0, 1, game(2, 0 and 1), secret(3, 0 to 2); as longs that wrap.");
        day(run).due("digest()", digestOf(
            2, 2, 4, 4, 2, 0, 2, 12, NONE, NONE, NONE,
            5, 0, 2, 3, 1, 1, 4, 1, 0, 2, 0, 1,
            2, -6, 1, 20,
            14, 14, 4, 0, 0, 2, 14, 2, 0, 2, 0,
            0, 0, 6, 2, 0, 1, 14, NONE, 1, 2, 0));
        // A day of 2 hours: stone 0 slides, stone 1 is told twice, stone 3 is free; without CARRY 1 all would slide.
        day(run.anew()).stones("3030").people("3n").with("set(0, 2)", "set(1, 3)", "carry(2, 1, 1)", "carry(2, 2, 1)",
            "tide(3, 9)").due("digest()", digestOf(
            3, 4, 6, 8, 4, 1, 2, 2, NONE, NONE, 2,
            5, 0, 2, 3, 1, 1, 3, 1, 1, 4, 1, 0, 2, 0, 1, 3, 0, 2, 3, 0, NONE,
            2, -10, 1, -1, NONE, -10, 1, -7,
            0, -10, 0, 3, 1, NONE, -10, -5, -2, 1, 2,
            1, 8, 6, 8, 0, 1, 5, 3, 2, 0, 0));
    }
}
