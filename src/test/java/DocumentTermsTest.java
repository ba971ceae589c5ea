import java.nio.file.Files;
import java.nio.file.Path;
import java.util.ArrayList;
import java.util.List;
import java.util.regex.Matcher;
import java.util.regex.Pattern;

/** The document from its first line on, sentence by sentence in its own words: all but the promises. */
public final class DocumentTermsTest extends Quotes {
    private static final Path SOURCE = Path.of("src/main/java/StoneVotes.java");
    private static final int MOST_CALLS = 512;

    public static void main(String[] args) throws Exception {
        whatItIs();
        calls();
        texts();
        faults();
        dayAndCarries();
        law();
        heap();
        sheets();
        findings();
        results();
        fewest();
        mostAndHold();
        turns();
        secret();
        doublesAndSettled();
        refusals();
        sectionsOfTheFace();
        notPromised();
        List<String> document = new ArrayList<>();
        for (String title : DOCUMENT.titles()) {
            if (!title.startsWith("Promise ")) {
                document.addAll(DOCUMENT.sentences(title));
            }
        }
        allQuoted(0, document);
        endQuotes("DocumentTermsTest", 0, 0);
    }

    /** A whole day: 4 on arm 5 at hour 2 for yes, 2 on arm 3 at hour 1 for no, and a tide at hour 2. */
    private static void whatItIs() {
        Run day = says(0, "A stone for each yes: an island that votes with stones carried to a hill, weighed by how far it"
            + " tips; people by strength and side, stones by weight and way, as texts; who carries what to which shelf,"
            + " hour by hour, judged by law; shelves that slide; the tide that tips, too; when it tips, what it comes to"
            + " by weight and arm, by weight alone, one each; the fewest stones that tip it, the most a side can carry in"
            + " a day, whom to hold back; two sides that carry in turn; who voted what, by how far it tipped; carrying"
            + " undone, left out.");
        day.people("5y3n").stones("4120").with("carry(0, 0, 5)", "carry(1, 1, 3)", "tide(2, -1)").due("judged()", NONE);
        day.due("laid(0)", 2).due("laid(1)", 1).due("tip(0)", 0).due("tip(1)", -6).due("tip(2)", 13).due("tip(3)", 14);
        day.due("when()", 2).due("settled()", 2).due("result(0)", 14).due("result(1)", 2).due("result(2)", 0);
        day.due("without(0)", -6).due("without(1)", 20).due("fewest(0)", 0).due("most(0)", 6).due("most(1)", 2)
            .due("hold(0)", 0).due("hold(1)", 1).due("game(4, 0)", 14).due("game(4, 1)", NONE);
        day.due("secret(8, 0)", 1).due("secret(8, 1)", 3).due("secret(2, 1)", 1).due("secret(2, 2)", 2);
        day.with("set(1, 3)").due("slid(12)", 1).due("shelf(0, 5, 12)", 0).due("tip(12)", -6).due("fewest(0)", NONE);
        day.with("set(1, 99)").due("undo()", 1).due("tip(12)", 20).due("fewest(0)", 0).due("game(2, 1)", 1)
            .due("game(1, 0)", 30).due("game(2, 0)", 30);
        says(0, "PEOPLE (text 0) are a text of up to 16 bytes: for each, as they come (8 at most; 0 on), a figure (1 to 9:")
            .people("9y8n7y6n5y4n3y").due("count(0)", 7).people("1n").due("count(0)", 8).due("person(0, 0)", 9)
            .due("person(1, 0)", 8).due("person(6, 0)", 3).due("person(7, 0)", 1).refused("person(8, 0)", BAD)
            .refused("type(0, '2')", FULL).due("count(2)", 16).anew().people("0y").due("fault(0)", 0)
            .anew().people(":y").due("fault(0)", 0);
    }

    private static void calls() {
        String words = "An object is used for at most 512 calls after it has been made; what later calls answer is free.";
        Run one = says(0, words);
        Run other = new Run(0, words);
        // In turn, so that each of the two shows what it has of its own: a tide that goes up, and one that goes down.
        for (int call = 1; call <= MOST_CALLS; call++) {
            one.due("tide(24, " + call % 50 + ")", (call - 1) % 50);
            other.due("tide(24, " + -call % 50 + ")", -(call - 1) % 50);
        }
        one.anew().people("5y3n").stones("4120").times(30, "carry(0, 0, 5)");
        for (int call = 39; call < MOST_CALLS; call++) {
            one.due("count(4)", 30);
        }
        one.due("tip(12)", 20);
        StoneVotes later = new StoneVotes();
        for (int call = 1; call <= 10 * MOST_CALLS; call++) {
            later.type(call % 2, '0' + call % 10);
            later.carry(call % 8, call % 9, 5);
            later.sheet(call % 4, call % 3, call % 61);
            later.digest();
        }
    }

    private static void texts() {
        says(0, "STRENGTH) and a letter (y yes, n no: SIDES 0, 1).").people("4y7n").due("person(0, 0)", 4)
            .due("person(0, 1)", 0).due("person(1, 0)", 7).due("person(1, 1)", 1).due("fault(0)", NONE)
            .anew().people("4x").due("fault(0)", 1).anew().people("4Y").due("fault(0)", 1);
        says(0, "STONES (text 1) are a text of up to 20 bytes: two figures for each, as they come (9 at most; 0 on): WEIGHT"
            + " (1 to 9), WAY (0 to 9).").stones("9019283746556473").due("count(1)", 8).stones("82").due("count(1)", 9)
            .due("stone(0, 0)", 9).due("stone(0, 1)", 0).due("stone(1, 0)", 1).due("stone(1, 1)", 9)
            .due("stone(8, 0)", 8).due("stone(8, 1)", 2).refused("stone(9, 0)", BAD).stones("11").due("count(3)", 20)
            .refused("type(1, '1')", FULL).anew().stones("01").due("fault(1)", 0).anew().stones("1:").due("fault(1)", 1);
    }

    private static void faults() {
        says(0, "The FAULT of a text is the place of the first byte with which it cannot go on (an empty one is well; of one"
            + " that is not ended, its end), or of the first byte of one too many.").due("fault(0)", NONE)
            .due("fault(1)", NONE).people("3").due("fault(0)", 1).people("y").due("fault(0)", NONE).people("y")
            .due("fault(0)", 2).people("0").due("fault(0)", 2).stones("123").due("fault(1)", 3).stones("45678912345678")
            .due("fault(1)", 17).stones("9").due("fault(1)", NONE).stones("1").due("fault(1)", 18).stones("2")
            .due("fault(1)", 18).anew().stones("12345678912345x78912").due("fault(1)", 14);
        says(0, "With a FAULT there are none of these.").people("9y9n").stones("9090").with("carry(0, 0, 5)")
            .due("tip(12)", 45).people("9").due("count(0)", 0).due("count(2)", 5).refused("person(0, 0)", BAD)
            .due("laid(0)", NONE).due("tip(12)", 0).people("y").due("count(0)", 3).due("tip(12)", 45).stones("9")
            .due("count(1)", 0).due("count(3)", 5).refused("stone(0, 0)", BAD).due("laid(0)", NONE).due("most(0)", 0)
            .stones("0").due("count(1)", 3).due("tip(12)", 45).due("most(0)", 27);
    }

    private static void dayAndCarries() {
        says(0, "HOURS (1 to 24; 12 at first) of the day; LOAD (1 to 99; 99 at first): what a SHELF bears; TIDE of each hour"
            + " (0 to 24; -50 to 50; 0 at first).").due("count(7)", 12).due("set(0, 1)", 12).due("set(0, 24)", 1)
            .refused("set(0, 0)", BAD).refused("set(0, 25)", BAD).due("set(1, 1)", 99).due("set(1, 99)", 1)
            .refused("set(1, 0)", BAD).refused("set(1, 100)", BAD).due("tide(0, -50)", 0).due("tide(0, 50)", -50)
            .due("tide(24, 50)", 0).due("tip(0)", 50).due("tip(1)", 0).due("tip(24)", 50)
            .refused("tide(-1, 0)", BAD_NUMBER).refused("tide(25, 0)", BAD_NUMBER).refused("tide(0, -51)", BAD_NUMBER)
            .refused("tide(0, 51)", BAD_NUMBER).people("9y").stones("9090").with("carry(0, 0, 1)", "carry(0, 1, 1)")
            .due("shelf(0, 1, 2)", 18).with("set(1, 18)").due("shelf(0, 1, 2)", 18).with("set(1, 17)")
            .due("shelf(0, 1, 2)", 0);
        says(0, "CARRIES, 30 at most (0 on): one of the PEOPLE (0 to 7) carries a STONE (0 to 8) to a SHELF (its ARM: 1 to 5).")
            .people("1y1y1y1y1y1y1y9n").stones("101010101010101090").due("carry(7, 8, 5)", 1).due("carry(0, 0, 1)", 2)
            .due("laid(0)", 1).due("laid(1)", 1).due("shelf(1, 5, 1)", 9).due("shelf(0, 1, 1)", 1)
            .refused("carry(8, 0, 1)", BAD).refused("carry(0, 9, 1)", BAD).refused("carry(0, 1, 0)", BAD)
            .refused("carry(0, 1, 6)", BAD).refused("carry(-1, 0, 1)", BAD).refused("carry(0, -1, 1)", BAD)
            .times(27, "carry(1, 0, 1)").due("carry(1, 1, 1)", 30).due("laid(29)", 1).refused("carry(1, 2, 1)", FULL);
    }

    private static void law() {
        says(0, "LAW: both are there, the STONE was not carried yet, its WEIGHT is no more than one's STRENGTH, and one is"
            + " there by the end of the day.").people("5y9n").stones("50605259").with("set(0, 4)", "carry(2, 0, 1)",
            "carry(0, 4, 1)", "carry(0, 1, 1)", "carry(0, 0, 1)", "carry(1, 0, 1)", "carry(1, 1, 1)", "carry(1, 3, 1)",
            "carry(1, 2, 1)").due("laid(0)", NONE).due("laid(1)", NONE).due("laid(2)", NONE).due("laid(3)", 1)
            .due("laid(4)", NONE).due("laid(5)", 1).due("laid(6)", NONE).due("laid(7)", 4).due("count(5)", 5)
            .with("set(0, 3)").due("laid(7)", NONE);
        says(0, "One begins at hour 0, or at that at which one laid the last STONE; a CARRY takes WAY and 1 hours.")
            .people("9y9n").stones("1019121510").with("carry(0, 2, 1)", "carry(1, 3, 1)", "carry(0, 0, 1)",
                "carry(1, 4, 1)", "set(0, 24)", "carry(0, 1, 1)").due("laid(0)", 3).due("laid(1)", 6).due("laid(2)", 4)
            .due("laid(3)", 7).due("laid(4)", 14).due("person(0, 2)", 14).due("person(1, 2)", 7);
        says(0, "What is against the LAW does nothing.").people("5y5n").stones("595950").with("carry(0, 0, 1)",
            "carry(0, 1, 5)", "carry(1, 0, 5)", "carry(1, 2, 2)").due("laid(0)", 10).due("laid(1)", NONE)
            .due("laid(2)", NONE).due("laid(3)", 1).due("person(0, 2)", 10).due("stone(1, 2)", NONE).due("stone(0, 2)", 0)
            .due("shelf(0, 5, 24)", 0).due("shelf(1, 5, 24)", 0).due("tip(12)", -5).due("count(6)", 2)
            .due("without(1)", -5).due("without(2)", -5);
        says(0, "JUDGED: the first CARRY that is; NONE.").people("5y").stones("5060").due("judged()", NONE)
            .with("carry(0, 0, 1)").due("judged()", NONE).with("carry(0, 1, 1)", "carry(0, 0, 1)").due("judged()", 1)
            .with("undo()", "undo()").due("judged()", NONE).with("wipe(1)").due("judged()", 0);
    }

    private static void heap() {
        // 4 and 5 come at hour 1, 3 at hour 2: told the other way round, and LOAD tells in which order they lie.
        says(0, "The HEAP at an hour (0 to 24): all STONES that were laid by then lie on SHELVES of the SIDE of who carried"
            + " them, in the order of hours (of like ones of CARRIES).").people("9y9y9y9n").stones("31405020")
            .with("carry(0, 0, 2)", "carry(1, 1, 2)", "carry(2, 2, 2)", "carry(3, 3, 2)").due("shelf(0, 2, 0)", 0)
            .due("shelf(0, 2, 1)", 9).due("shelf(1, 2, 1)", 2).due("shelf(0, 2, 2)", 12).due("shelf(0, 2, 24)", 12)
            .refused("shelf(0, 2, 25)", BAD).refused("shelf(0, 2, -1)", BAD).with("set(1, 8)").due("slid(1)", 2)
            .due("shelf(0, 2, 1)", 0).due("shelf(0, 2, 2)", 3).due("slid(24)", 2).with("set(1, 4)").due("slid(1)", 2)
            .due("shelf(0, 2, 2)", 3).anew().people("9y9y9y").stones("204030").with("set(1, 5)", "carry(0, 0, 1)",
                "carry(1, 1, 1)", "carry(2, 2, 1)").due("shelf(0, 1, 1)", 3).with("undo()", "undo()", "undo()",
                "carry(0, 0, 1)", "carry(2, 2, 1)", "carry(1, 1, 1)").due("shelf(0, 1, 1)", 0).due("slid(1)", 3);
        says(0, "If a STONE comes on a SHELF, and all that lies on it weighs more than LOAD then, all of that slides: it lies"
            + " on none.").people("9y").stones("40506010").with("set(1, 9)", "carry(0, 0, 3)", "carry(0, 1, 3)",
            "carry(0, 2, 3)", "carry(0, 3, 3)").due("shelf(0, 3, 1)", 4).due("shelf(0, 3, 2)", 9).due("slid(2)", 0)
            .due("shelf(0, 3, 3)", 0).due("slid(3)", 3).due("tip(3)", 0).due("shelf(0, 3, 4)", 1).due("slid(4)", 3)
            .due("count(6)", 1).due("result(1)", 1);
        says(0, "TIP: WEIGHT times ARM of all that lies on SHELVES of SIDE 0, less that of SIDE 1, and the TIDE of that hour.")
            .people("9y9n").stones("3050204070").with("carry(0, 0, 1)", "carry(0, 1, 4)", "carry(1, 2, 5)",
                "carry(1, 3, 3)", "carry(0, 4, 2)", "tide(2, -50)", "tide(3, 8)").due("tip(1)", 3 - 10)
            .due("tip(2)", 3 + 20 - 10 - 12 - 50).due("tip(3)", 3 + 20 + 14 - 10 - 12 + 8).due("tip(4)", 15);
    }

    private static void sheets() {
        Run rows = says(0, "SHEETS 0 .. 3 are LOST (at first) or a row of a FORM: 0 bytes, 1 shorts, 2 ints, of 0 to 60 items"
            + " (0 at first).");
        for (int s = 0; s <= 3; s++) {
            rows.due("lose(" + s + ")", NULL);
        }
        rows.refused("lose(4)", BAD).refused("lose(-1)", BAD).due("sheet(0, 0, 60)", 60).due("sheet(1, 1, 1)", 1)
            .due("sheet(2, 2, 2)", 2).due("sheet(3, 0, 0)", 0).refused("sheet(3, 0, 61)", BAD)
            .refused("sheet(3, 3, 1)", BAD).due("get(0, 0, 0)", 0).due("get(0, 0, 59)", 0).dueRow(1, 1, 0)
            .dueRow(2, 2, 0, 0).dueRow(3, 0).with("lay(0, 0, 59, 384)", "lay(1, 1, 0, 98304)", "lay(2, 2, 1, 98304)")
            .due("get(0, 0, 59)", -128).due("get(1, 1, 0)", -32768).due("get(2, 2, 1)", 98304);
    }

    private static void findings() {
        says(0, "FINDINGS (answers -10 less the number; they change nothing but count() 8): 1 NULL: the SHEET is LOST;"
            + " 2 INDEX: there is no such item; 3 CAST: it has another FORM; 4 STORE: unlike FORMS; 5 SIZE: below 0.")
            .row(0, 0, 7, 8).row(1, 1, 9).due("count(8)", 0).refused("read(2)", -11).due("count(8)", 1)
            .refused("lay(0, 0, 2, 5)", -12).due("count(8)", 2).refused("lay(0, 1, 0, 5)", -13).due("count(8)", 3)
            .refused("copy(0, 0, 1, 0, 1)", -14).due("count(8)", 4).refused("sheet(0, 2, -1)", -15).due("count(8)", 5)
            .refused("write(3)", -11).due("count(8)", 1).dueRow(0, 0, 7, 8).dueRow(1, 1, 9);
    }

    private static void results() {
        says(0, "WHEN: the first hour of the day (0 to HOURS) at which the TIP is above 0; NONE.").people("9y").stones("23")
            .due("when()", NONE).with("carry(0, 0, 5)").due("when()", 4).with("tide(4, -10)").due("when()", 5)
            .with("tide(0, 1)").due("when()", 0).with("tide(0, -1)", "undo()", "tide(12, 1)").due("when()", 12)
            .with("set(0, 11)").due("when()", NONE).with("set(0, 13)").due("when()", 12);
        says(0, "RESULT at the end of the day by a RULE: 0 by TIP, 1 by WEIGHT of all that lies on SHELVES alone (no TIDE), 2"
            + " one each: how many of SIDE 0 have a STONE that lies on a SHELF, less those of SIDE 1: as a number.")
            .people("9y9n9n9n").stones("9020103080").with("carry(0, 0, 1)", "carry(0, 1, 1)", "carry(1, 2, 5)",
                "carry(2, 3, 5)", "carry(3, 4, 4)", "tide(12, 7)").due("result(0)", 11 - 5 - 15 - 32 + 7)
            .due("result(1)", 11 - 1 - 3 - 8).due("result(2)", 1 - 3).with("set(1, 7)").due("result(0)", 2 - 20 + 7)
            .due("result(1)", 2 - 4).due("result(2)", 1 - 2).with("set(0, 1)").due("result(0)", -20)
            .due("result(1)", -4).due("result(2)", -2);
        says(0, "WITHOUT a CARRY: the TIP at the end of the day, were it not told (all others judged anew).").people("5y9n")
            .stones("593030").with("tide(12, 2)", "carry(0, 0, 5)", "carry(0, 1, 4)", "carry(1, 0, 3)", "carry(1, 1, 2)",
                "carry(1, 2, 1)").due("tip(12)", 25 + 12 - 3 + 2).due("without(0)", 12 - 15 - 3 + 2)
            .due("without(1)", 25 - 6 - 3 + 2).due("without(2)", 36).due("without(3)", 36).due("without(4)", 39)
            .due("tip(12)", 36).due("count(4)", 5);
    }

    private static void fewest() {
        // Of 8 7 6 5 2 none of SIDE 0 lifts 8; 7 is carried.
        says(0, "FEWEST, at the end of the day: STONES that were not carried, each such as some one of SIDE 0 can lift, laid"
            + " with ARM 5 (no SHELF slides for them): the fewest by which the TIP is above 0; of like ones with the least"
            + " WEIGHT together, of like ones the least bits: how many; as bits; NONE.").people("3y9n7y")
            .stones("807060502050").with("carry(1, 1, 1)", "set(1, 7)").due("tip(12)", -7).due("fewest(0)", 1)
            .due("fewest(1)", 16).with("tide(12, -3)").due("fewest(0)", 1).due("fewest(1)", 8).with("tide(12, -18)")
            .due("fewest(1)", 4).with("tide(12, -23)").due("fewest(0)", 2).due("fewest(1)", 24).with("tide(12, -28)")
            .due("fewest(1)", 20).with("tide(12, -33)").due("fewest(1)", 40).with("tide(12, -43)").due("fewest(1)", 12)
            .with("tide(12, -50)").due("fewest(0)", 3).due("fewest(1)", 56).with("tide(12, 8)").due("fewest(0)", 0)
            .due("fewest(1)", 0).with("tide(12, -50)", "wipe(0)").people("2y9n").due("fewest(0)", NONE)
            .due("fewest(1)", NONE).with("tide(12, -2)").due("fewest(1)", 16).with("set(0, 11)").due("fewest(1)", 16);
    }

    private static void mostAndHold() {
        // One lifts 4 at most, one lifts 9: 9 takes 3 hours, 8 takes 2, 4 takes 2, 3 takes 1.
        says(0, "MOST of a SIDE: of all STONES, whatever was carried: each of this SIDE carries some, one behind the other, no"
            + " heavier than STRENGTH, all of them by the end of the day: the most WEIGHT that all carry together.")
            .people("4y9y5n").stones("92814130").with("set(0, 5)").due("most(0)", 24).due("most(1)", 7)
            .with("carry(1, 0, 5)", "carry(2, 2, 5)").due("most(0)", 24).due("most(1)", 7).with("set(0, 4)")
            .due("most(0)", 9 + 4 + 3).with("set(0, 3)").due("most(0)", 9 + 4 + 3).due("most(1)", 7).with("set(0, 2)")
            .due("most(0)", 8 + 4).due("most(1)", 4).with("set(0, 1)").due("most(0)", 3).due("most(1)", 3);
        says(0, "HOLD: the one of a SIDE without whom its MOST is least, of like ones the least; NONE: there is nobody.")
            .due("hold(0)", NONE).due("hold(1)", NONE).people("4y9y5n9y5n").stones("92814130").with("set(0, 2)")
            .due("hold(1)", 2).due("hold(0)", 0).with("wipe(1)").stones("9090").due("hold(0)", 0).with("wipe(1)")
            .stones("9150").due("hold(0)", 1).with("wipe(0)").people("4y9y5n").due("hold(0)", 1).due("hold(1)", 2);
    }

    private static void turns() {
        // SIDE 0 lifts 6, SIDE 1 lifts 4: to take 4 from the other one is worth more than to lay 6 at once.
        says(0, "TURNS: from the end of the day, n (1 to 4) STONES are laid in turn, SIDE 0 first, each by somebody of the SIDE"
            + " who can lift it, with ARM 5, STONES not carried yet (hours, LOAD aside); who has none to lay lays none, who"
            + " has one has to lay one; SIDE 0 wants the TIP as great as can be at the end, the other one as small: what it"
            + " is; the first STONE (of like ones the least); NONE: there is none to lay.").people("6y4n").stones("19694979")
            .with("set(0, 1)", "set(1, 1)", "tide(1, 7)").due("game(1, 0)", 37).due("game(1, 1)", 1)
            .due("game(2, 0)", 7 + 20 - 5).due("game(2, 1)", 2).due("game(3, 0)", 7 + 20 - 5 + 30).due("game(3, 1)", 2)
            .due("game(4, 0)", 52).refused("game(0, 0)", BAD_NUMBER).refused("game(5, 0)", BAD_NUMBER)
            .anew().people("6y4n").stones("606040").with("carry(0, 2, 1)").due("game(1, 1)", 0).due("game(2, 0)", 34)
            .due("game(3, 0)", 64).with("carry(0, 0, 1)", "carry(0, 1, 1)").due("game(4, 1)", NONE).due("game(4, 0)", 16)
            .anew().people("9y1n").stones("1090").due("game(2, 0)", 40).due("game(3, 0)", 50).due("game(3, 1)", 0);
    }

    private static void secret() {
        Run vote = says(0, "SECRET: each of the PEOPLE laid a STONE that weighs one's STRENGTH with an ARM (0 to 5 of each of"
            + " the numbers 0 to 7; 1 at first), for yes, for no, or none, whatever SIDE one is of: WAYS in which the TIP (no"
            + " TIDE) comes to a told one (-999 to 999): how many; who voted yes in all, no in all, as bits (0, if there are"
            + " no ways).");
        for (int p = 0; p <= 7; p++) {
            vote.due("arm(" + p + ", 1)", 1);
        }
        // 3 and 2 and 4: 5 comes from 3 and 2, from 3 less 2 and 4, and from none else.
        vote.people("3y2n4y").with("tide(12, 50)").due("secret(5, 0)", 2).due("secret(5, 1)", 1).due("secret(5, 2)", 0)
            .due("secret(9, 0)", 1).due("secret(9, 1)", 7).due("secret(-9, 2)", 7).due("secret(3, 0)", 2)
            .due("secret(1, 0)", 3).due("secret(8, 0)", 0).due("secret(8, 1)", 0).due("secret(8, 2)", 0)
            .with("arm(0, 5)").due("secret(21, 0)", 1).due("secret(21, 1)", 7).due("secret(17, 0)", 2)
            .due("secret(17, 1)", 1).due("secret(9, 1)", 1).due("secret(9, 2)", 6).with("arm(0, 0)").due("secret(6, 0)", 3)
            .due("secret(6, 1)", 6).due("secret(-999, 0)", 0).due("secret(999, 0)", 0).refused("secret(-1000, 0)", BAD)
            .refused("secret(1000, 0)", BAD).refused("arm(0, 6)", BAD).refused("arm(0, -1)", BAD)
            .refused("arm(8, 1)", BAD).refused("arm(-1, 1)", BAD);
    }

    private static void doublesAndSettled() {
        says(0, "DOUBLES: STONES that are told in more than one CARRY, as bits.").due("doubles()", 0)
            .with("carry(0, 0, 1)", "carry(1, 8, 1)", "carry(2, 4, 1)").due("doubles()", 0).with("carry(0, 8, 5)")
            .due("doubles()", 256).with("carry(3, 0, 2)", "carry(4, 8, 2)").due("doubles()", 257);
        says(0, "SETTLED: the first hour of the day from which on, to its end, the TIP is above 0, or below 0, at each hour as"
            + " at the end; NONE: at the end it is 0.").due("settled()", NONE).people("5y5n").stones("5250")
            .with("carry(0, 0, 2)").due("settled()", 3).with("tide(7, -10)").due("settled()", 8).with("carry(1, 1, 4)")
            .due("settled()", 1).with("tide(0, -1)").due("settled()", 0).with("tide(12, 10)").due("settled()", NONE)
            .with("tide(12, 11)").due("settled()", 12).with("set(0, 11)").due("settled()", 0);
    }

    private static void refusals() {
        says(0, "Refusals, the first that fits, in the order told at each act: BAD -2 (a number not as told, no such thing),"
            + " NULL, NOT -3 (as told), FULL -4, other FINDINGS.").refused("undo()", -3).refused("person(0, 0)", -2)
            .refused("lay(0, 3, 0, 5)", -2).refused("lay(0, 0, 0, 5)", -11).refused("copy(0, 0, 4, 0, 1)", -2)
            .refused("sheet(0, 3, -1)", -2).refused("sheet(0, 2, -1)", -15).row(0, 0, 7).row(1, 1, 8)
            .refused("copy(0, 9, 2, 0, 1)", -11).refused("copy(0, 9, 1, 0, 1)", -14).refused("copy(0, 9, 0, 0, 1)", -12)
            .refused("lay(0, 1, 9, 5)", -13).refused("lay(0, 0, 9, 5)", -12).times(30, "carry(0, 0, 1)")
            .refused("carry(0, 0, 6)", -2).refused("carry(0, 0, 5)", -4).refused("read(2)", -11).refused("read(4)", -2)
            .people("1y2n3y4n5y6n7y8n").refused("type(0, 256)", -2).refused("type(0, '1')", -4);
        Run busy = says(0, "They change nothing (FINDINGS but count() 8).").people("9y7n").stones("902130").row(0, 0, 5, 6)
            .row(1, 1, 7).with("set(1, 12)", "tide(12, 4)", "arm(2, 5)", "carry(0, 0, 5)", "carry(1, 1, 1)");
        for (String call : new String[] {"type(0, 256)", "wipe(2)", "set(0, 25)", "carry(0, 2, 6)", "arm(2, 6)",
            "sheet(0, 0, 61)", "laid(2)", "most(2)", "count(9)"}) {
            busy.refused(call, BAD);
        }
        busy.refused("lose(2)", NULL).refused("lay(0, 0, 2, 9)", INDEX).refused("lay(0, 2, 0, 9)", CAST)
            .refused("copy(0, 0, 1, 0, 1)", STORE).refused("sheet(1, 0, -1)", SIZE).refused("get(1, 0, 0)", LEAST_INT, 3);
        says(0, "Where any number is told, it is -10000 less x.").with("tide(12, -2)").due("tip(12)", -2)
            .refused("tide(12, 51)", -10002).refused("tip(25)", -10002).refused("result(3)", -10002)
            .refused("without(0)", -10002).refused("game(1, 2)", -10002).due("result(0)", -2).due("game(4, 0)", -2)
            .due("game(4, 1)", NONE);
    }

    /** The interface's own words: the line that stands ahead of a group of calls, and the calls of this group. */
    private static void ahead(String source, String words) {
        says(0, words);
        Matcher label = Pattern.compile("the interface says: (.+)\\.").matcher(words);
        List<String> due = new ArrayList<>();
        for (Matcher name = Pattern.compile("`(\\w+)`").matcher(words); name.find(); ) {
            due.add(name.group(1));
        }
        List<String> found = new ArrayList<>();
        String line = label.find() ? "    // " + label.group(1) + "\n" : words;
        int from = source.indexOf(line);
        if (from >= 0) {
            String group = source.substring(from + line.length()).split("    // ----")[0];
            for (Matcher m = Pattern.compile("public \\w+ (\\w+)\\(").matcher(group); m.find(); ) {
                found.add(m.group(1));
            }
        }
        if (!found.equals(due)) {
            tell("ahead of " + due + ", but found: " + found);
        }
    }

    private static void sectionsOfTheFace() throws Exception {
        String source = Files.readString(SOURCE);
        ahead(source, "Ahead of the calls `type`, `wipe`, `fault`, `person`, `stone`, `set`, `tide` the interface says:"
            + " ---- people, stones.");
        ahead(source, "Ahead of the calls `carry`, `read`, `undo`, `judged`, `laid` the interface says: ---- carries.");
        ahead(source, "Ahead of the calls `tip`, `shelf`, `slid`, `when`, `result`, `without`, `settled`, `doubles` the"
            + " interface says: ---- the heap.");
        ahead(source, "Ahead of the calls `fewest`, `most`, `hold`, `game` the interface says: ---- what could be.");
        ahead(source, "Ahead of the calls `arm`, `secret` the interface says: ---- the secret vote.");
        ahead(source, "Ahead of the calls `sheet`, `lose`, `lay`, `get`, `copy`, `write`, `count`, `digest` the interface"
            + " says: ---- sheets.");
    }

    /** What is free has no answer that is due. */
    private static void notPromised() {
        says(0, "How the state is held inside the object is free, as are the speed of each call, the text of toString and the"
            + " behaviour of equals and hashCode.");
        says(0, "Use of one object from several threads at once is not promised to be safe.");
        says(0, "Nothing is promised beyond the answers and state changes described above, and nothing about an object after"
            + " its 512th call.");
    }
}
