/** Promises 14 to 21, sentence by sentence: the HEAP, its SHELVES, and what it comes to. */
public final class HeapBoundsTest extends Sentences {
    private static final String NINE_NINES = "909090909090909090";

    public static void main(String[] args) {
        tip();
        tipByHour();
        shelf();
        shelfBears();
        slid();
        slidInOrder();
        when();
        result();
        resultOneEach();
        without();
        settled();
        settledByTheDay();
        doubles();
        asking();
        end("HeapBoundsTest", 14, 21);
    }

    private static Run allCarriedTo5(Run run, String who) {
        run.people(who).stones(NINE_NINES);
        for (int s = 0; s <= 8; s++) {
            run.with("carry(0, " + s + ", 5)");
        }
        return run;
    }

    private static void tip() {
        sentence(14, "an hour (0 to 24): the first and the last").with("tide(0, 3)", "tide(24, 4)").due("tip(0)", 3)
            .due("tip(24)", 4);
        sentence(14, "an hour: below 0, above 24").with("tide(0, 3)", "tide(24, 4)").refused("tip(-1)", BAD_NUMBER)
            .refused("tip(25)", BAD_NUMBER).refused("tip(MIN)", BAD_NUMBER).refused("tip(MAX)", BAD_NUMBER);
        sentence(14, "as any number: what looks like a refusal and is none").with("tide(0, -1)", "tide(1, -2)",
            "tide(2, -11)").due("tip(0)", -1).due("tip(1)", -2).due("tip(2)", -11).due("count(8)", 0);
        allCarriedTo5(sentence(14, "the greatest there can be"), "9y").with("tide(9, 50)").due("tip(9)", 455)
            .due("tip(8)", 360).due("tip(10)", 405);
        allCarriedTo5(sentence(14, "the least there can be"), "9n").with("tide(9, -50)").due("tip(9)", -455)
            .due("tip(8)", -360).due("tip(10)", -405);
        sentence(14, "WEIGHT times ARM: of each SHELF").people("9y9n").stones("1020304050")
            .with("carry(0, 0, 1)", "carry(0, 1, 2)", "carry(0, 2, 3)", "carry(0, 3, 4)", "carry(0, 4, 5)")
            .due("tip(1)", 1).due("tip(2)", 5).due("tip(3)", 14).due("tip(4)", 30).due("tip(5)", 55);
        sentence(14, "less that of SIDE 1").people("9y9n").stones("5040").with("carry(0, 0, 2)", "carry(1, 1, 3)")
            .due("tip(1)", -2);
    }

    private static void tipByHour() {
        sentence(14, "all STONES that were laid by then: the hour before, and that hour").people("5y").stones("53")
            .with("carry(0, 0, 1)").due("tip(0)", 0).due("tip(3)", 0).due("tip(4)", 5).due("tip(5)", 5).due("tip(24)", 5);
        sentence(14, "at hour 0 none was laid").people("5y").stones("50").with("carry(0, 0, 1)").due("tip(0)", 0)
            .due("tip(1)", 5);
        sentence(14, "at the last hour of the longest day").people("5y").stones("595953").with("set(0, 24)",
            "carry(0, 0, 1)", "carry(0, 1, 1)", "carry(0, 2, 1)").due("tip(23)", 10).due("tip(24)", 15);
        sentence(14, "the TIDE of that hour, of no other").with("tide(5, 7)").due("tip(4)", 0).due("tip(5)", 7)
            .due("tip(6)", 0);
        sentence(14, "an hour behind the end of the day").people("5y").stones("50").with("set(0, 1)", "tide(2, 9)",
            "tide(24, -9)", "carry(0, 0, 1)").due("tip(1)", 5).due("tip(2)", 14).due("tip(24)", -4);
    }

    private static void shelf() {
        Run sides = sentence(15, "a SHELF of a SIDE: each of ten").people("9y9n").stones("10203040507080");
        sides.with("carry(0, 0, 1)", "carry(0, 4, 5)", "carry(1, 1, 1)", "carry(1, 5, 5)");
        int[][] want = {{1, 0, 0, 0, 5}, {2, 0, 0, 0, 7}};
        for (int side = 0; side <= 1; side++) {
            for (int arm = 1; arm <= 5; arm++) {
                sides.due("shelf(" + side + ", " + arm + ", 24)", want[side][arm - 1]);
            }
        }
        sides.refused("shelf(-1, 1, 24)", BAD).refused("shelf(2, 1, 24)", BAD).refused("shelf(MIN, 1, 24)", BAD)
            .refused("shelf(MAX, 1, 24)", BAD);
        sentence(15, "ARM: below 1, above 5").people("9y9n").stones("1020").with("carry(0, 0, 5)", "carry(1, 1, 1)")
            .refused("shelf(0, 0, 24)", BAD).refused("shelf(0, 6, 24)", BAD).refused("shelf(1, 0, 24)", BAD)
            .refused("shelf(1, 6, 24)", BAD).refused("shelf(0, MIN, 24)", BAD).refused("shelf(0, MAX, 24)", BAD);
        sentence(15, "an hour: below 0, above 24").people("9y").stones("10").with("carry(0, 0, 1)")
            .due("shelf(0, 1, 0)", 0).due("shelf(0, 1, 24)", 1).refused("shelf(0, 1, -1)", BAD)
            .refused("shelf(0, 1, 25)", BAD).refused("shelf(0, 1, MIN)", BAD).refused("shelf(0, 1, MAX)", BAD);
        sentence(15, "at an hour: the one before, and that one").people("9y").stones("1310").with("carry(0, 0, 1)",
            "carry(0, 1, 1)").due("shelf(0, 1, 3)", 0).due("shelf(0, 1, 4)", 1).due("shelf(0, 1, 5)", 2);
    }

    private static void shelfBears() {
        sentence(15, "weighs more than LOAD: as much does not slide, one more does").people("9y").stones("5040")
            .with("carry(0, 0, 3)", "carry(0, 1, 3)", "set(1, 9)").due("shelf(0, 3, 2)", 9).due("slid(2)", 0)
            .with("set(1, 8)").due("shelf(0, 3, 1)", 5).due("shelf(0, 3, 2)", 0).due("slid(2)", 2);
        sentence(15, "weighs more than LOAD: one STONE by itself").people("9y").stones("90").with("carry(0, 0, 3)",
            "set(1, 9)").due("shelf(0, 3, 1)", 9).with("set(1, 8)").due("shelf(0, 3, 1)", 0).due("slid(1)", 1);
        sentence(15, "the least LOAD").people("9y").stones("101020").with("set(1, 1)", "carry(0, 0, 1)")
            .due("shelf(0, 1, 1)", 1).due("slid(1)", 0).with("carry(0, 1, 1)").due("shelf(0, 1, 2)", 0)
            .due("slid(2)", 2).with("carry(0, 2, 2)").due("shelf(0, 2, 3)", 0).due("slid(3)", 3);
        allCarriedTo5(sentence(15, "the greatest LOAD bears all there is"), "9y").due("shelf(0, 5, 9)", 81)
            .due("slid(24)", 0).with("set(1, 81)").due("shelf(0, 5, 9)", 81).due("slid(24)", 0)
            .with("set(1, 80)").due("shelf(0, 5, 8)", 72).due("shelf(0, 5, 9)", 0).due("slid(8)", 0).due("slid(9)", 9);
        sentence(15, "all of that slides: it lies on none, and the next one lies by itself").people("9y")
            .stones("504030").with("set(1, 8)", "carry(0, 0, 1)", "carry(0, 1, 1)", "carry(0, 2, 1)")
            .due("shelf(0, 1, 1)", 5).due("shelf(0, 1, 2)", 0).due("shelf(0, 1, 3)", 3).due("count(6)", 1)
            .due("tip(2)", 0).due("tip(3)", 3);
        sentence(15, "what lies on other SHELVES stays").people("9y9n").stones("5040305090")
            .with("set(1, 8)", "carry(0, 0, 1)", "carry(1, 3, 1)", "carry(0, 2, 2)", "carry(0, 1, 1)")
            .due("shelf(0, 1, 3)", 0).due("shelf(0, 2, 3)", 3).due("shelf(1, 1, 3)", 5).due("slid(3)", 2);
    }

    private static void slid() {
        sentence(16, "how many by an hour: the one before, and that one").people("9y").stones("9390")
            .with("set(1, 8)", "carry(0, 0, 1)", "carry(0, 1, 1)").due("slid(0)", 0).due("slid(3)", 0).due("slid(4)", 1)
            .due("slid(5)", 2).due("slid(24)", 2);
        sentence(16, "an hour: below 0, above 24").people("9y").stones("90").with("set(1, 8)", "carry(0, 0, 1)")
            .due("slid(0)", 0).due("slid(24)", 1).refused("slid(-1)", BAD).refused("slid(25)", BAD)
            .refused("slid(MIN)", BAD).refused("slid(MAX)", BAD);
        sentence(16, "none").due("slid(24)", 0).people("9y").stones("90").with("carry(0, 0, 1)").due("slid(24)", 0);
        Run all = sentence(16, "all nine, one by one").people("9y").stones(NINE_NINES).with("set(1, 1)");
        for (int s = 0; s <= 8; s++) {
            all.with("carry(0, " + s + ", 1)").due("slid(24)", s + 1);
        }
        all.due("count(6)", 0).due("slid(9)", 9).due("slid(8)", 8);
        sentence(16, "SHELVES that slide twice").people("9y").stones("50504040").with("set(1, 9)", "carry(0, 0, 1)",
            "carry(0, 1, 1)", "carry(0, 2, 1)").due("slid(1)", 0).due("slid(2)", 2).due("slid(3)", 2).with("set(1, 7)",
            "carry(0, 3, 1)").due("slid(3)", 2).due("slid(4)", 4);
        sentence(16, "LOAD is that of now, for the whole day").people("9y").stones("50").with("carry(0, 0, 1)")
            .due("slid(1)", 0).with("set(1, 4)").due("slid(1)", 1).with("set(1, 5)").due("slid(1)", 0);
    }

    private static void slidInOrder() {
        sentence(16, "in the order of hours").people("9y9y").stones("533040").with("set(1, 7)", "carry(0, 0, 1)",
            "carry(1, 1, 1)", "carry(1, 2, 1)").due("slid(2)", 0).due("shelf(0, 1, 2)", 7).due("slid(4)", 3)
            .due("shelf(0, 1, 4)", 0);
        sentence(16, "in the order of hours: told last, laid between the others").people("9y9y9y").stones("503440")
            .with("set(1, 8)", "carry(0, 0, 1)", "carry(1, 1, 1)", "carry(2, 2, 1)").due("shelf(0, 1, 1)", 0)
            .due("slid(1)", 2).due("shelf(0, 1, 5)", 3).with("undo()").stones("61").with("carry(2, 3, 1)")
            .due("laid(0)", 1).due("laid(1)", 5).due("laid(2)", 2).due("slid(2)", 2).due("shelf(0, 1, 2)", 0)
            .due("shelf(0, 1, 5)", 3).due("slid(5)", 2);
        sentence(16, "of like ones of CARRIES").people("9y9y9y").stones("203050").with("set(1, 7)", "carry(2, 1, 1)",
            "carry(0, 2, 1)", "carry(1, 0, 1)").due("slid(1)", 2).due("shelf(0, 1, 1)", 2);
        sentence(16, "of like ones of CARRIES: the other way round").people("9y9y9y").stones("203050")
            .with("set(1, 7)", "carry(1, 0, 1)", "carry(0, 2, 1)", "carry(2, 1, 1)").due("slid(1)", 3)
            .due("shelf(0, 1, 1)", 0);
    }

    private static void when() {
        sentence(17, "above 0: 0 is not, 1 is").due("when()", NONE).with("tide(5, 1)").due("when()", 5)
            .with("tide(5, 0)").due("when()", NONE).with("tide(5, -1)").due("when()", NONE);
        sentence(17, "above 0: two that weigh alike").people("5y5n").stones("5050").with("carry(0, 0, 2)",
            "carry(1, 1, 2)").due("when()", NONE).with("tide(1, 1)").due("when()", 1);
        sentence(17, "the first hour of the day (0 to HOURS): 0").with("tide(0, 1)", "tide(1, 50)").due("when()", 0);
        sentence(17, "the first hour of the day (0 to HOURS): HOURS, and one behind").with("tide(12, 1)")
            .due("when()", 12).with("tide(12, 0)", "tide(13, 1)").due("when()", NONE).with("set(0, 13)").due("when()", 13);
        sentence(17, "of the shortest day").with("set(0, 1)", "tide(2, 1)").due("when()", NONE).with("tide(1, 1)")
            .due("when()", 1);
        sentence(17, "of the longest day").with("set(0, 24)", "tide(24, 1)").due("when()", 24).with("set(0, 23)")
            .due("when()", NONE);
        sentence(17, "the first, though it tips back").with("tide(3, 1)", "tide(4, -50)", "tide(6, 2)").due("when()", 3);
        sentence(17, "the hour at which a STONE was laid").people("5y").stones("53").with("carry(0, 0, 1)")
            .due("when()", 4).with("tide(4, -5)").due("when()", 5).with("tide(4, -4)").due("when()", 4);
    }

    private static void result() {
        sentence(18, "by a RULE: 0 to 2, and beyond").people("5y").stones("50").with("carry(0, 0, 3)")
            .due("result(0)", 15).due("result(1)", 5).due("result(2)", 1).refused("result(-1)", BAD_NUMBER)
            .refused("result(3)", BAD_NUMBER).refused("result(MIN)", BAD_NUMBER).refused("result(MAX)", BAD_NUMBER);
        sentence(18, "at the end of the day: by then, not behind it").people("5y").stones("53").with("tide(4, 1)",
            "tide(3, 2)", "carry(0, 0, 1)", "set(0, 4)").due("result(0)", 6).with("set(0, 3)").due("result(0)", 2)
            .with("set(0, 5)").due("result(0)", 5);
        sentence(18, "by WEIGHT alone (no TIDE)").people("5y").stones("50").with("tide(12, 50)").due("result(1)", 0)
            .with("carry(0, 0, 5)").due("result(1)", 5).due("result(0)", 75);
        allCarriedTo5(sentence(18, "the greatest there can be"), "9y").with("tide(12, 50)").due("result(0)", 455)
            .due("result(1)", 81).due("result(2)", 1);
        allCarriedTo5(sentence(18, "the least there can be"), "9n").with("tide(12, -50)").due("result(0)", -455)
            .due("result(1)", -81).due("result(2)", -1);
        sentence(18, "as a number: what looks like a refusal and is none").people("2n1n").stones("2010")
            .with("carry(0, 0, 1)").due("result(0)", -2).due("result(1)", -2).with("carry(1, 1, 1)")
            .due("result(2)", -2).due("result(1)", -3).due("count(8)", 0);
        sentence(18, "what slid lies on none").people("5y").stones("50").with("set(1, 4)", "carry(0, 0, 5)")
            .due("result(0)", 0).due("result(1)", 0).due("result(2)", 0);
    }

    private static void resultOneEach() {
        Run each = sentence(18, "one each: eight of a SIDE");
        for (String letter : new String[] {"y", "n"}) {
            each.anew().people(("9" + letter).repeat(8)).stones(NINE_NINES);
            for (int p = 0; p <= 7; p++) {
                each.with("carry(" + p + ", " + p + ", 1)").due("result(2)", letter.equals("y") ? p + 1 : -p - 1);
            }
            each.with("carry(7, 8, 2)").due("result(2)", letter.equals("y") ? 8 : -8);
        }
        sentence(18, "one each: more STONES of one are one").people("9y9n").stones("10101010").with("carry(0, 0, 1)",
            "carry(0, 1, 2)", "carry(0, 2, 3)").due("result(2)", 1).with("carry(1, 3, 1)").due("result(2)", 0);
        sentence(18, "one each: one of two STONES slid").people("9y").stones("9010").with("set(1, 8)", "carry(0, 0, 1)")
            .due("result(2)", 0).with("carry(0, 1, 1)").due("result(2)", 1);
        sentence(18, "one each: at the end of the day").people("9y").stones("13").with("carry(0, 0, 1)", "set(0, 4)")
            .due("result(2)", 1).with("set(0, 3)").due("result(2)", 0);
    }

    private static void without() {
        sentence(19, "a CARRY: the first and the last of thirty").people("9y").stones("90").with("carry(0, 0, 1)")
            .times(29, "carry(0, 0, 5)").due("without(0)", 45).due("without(1)", 9).due("without(29)", 9)
            .refused("without(30)", BAD_NUMBER).refused("without(-1)", BAD_NUMBER);
        sentence(19, "no such CARRY").refused("without(0)", BAD_NUMBER).with("carry(0, 0, 1)")
            .refused("without(1)", BAD_NUMBER).refused("without(-1)", BAD_NUMBER).refused("without(MIN)", BAD_NUMBER)
            .refused("without(MAX)", BAD_NUMBER).due("without(0)", 0).with("undo()").refused("without(0)", BAD_NUMBER);
        sentence(19, "the only one").people("9y").stones("90").with("carry(0, 0, 5)", "tide(12, -7)").due("without(0)", -7);
        sentence(19, "all others judged anew: the STONE is free").people("5y5n").stones("50").with("carry(0, 0, 1)",
            "carry(1, 0, 2)").due("without(0)", -10).due("without(1)", 5);
        sentence(19, "all others judged anew: there is time").people("5y").stones("5950").with("set(0, 10)",
            "carry(0, 0, 1)", "carry(0, 1, 2)").due("laid(1)", NONE).due("without(0)", 10).due("without(1)", 5);
        sentence(19, "all others judged anew: then another one is too late").people("9y9y").stones("195054")
            .with("carry(0, 0, 1)", "carry(1, 0, 2)", "carry(1, 2, 3)").due("laid(2)", 5).due("tip(12)", 16)
            .due("without(0)", 2);
        sentence(19, "all others judged anew: what slid lies").people("9y").stones("5040").with("set(1, 8)",
            "carry(0, 0, 1)", "carry(0, 1, 1)").due("tip(12)", 0).due("without(0)", 4).due("without(1)", 5);
        sentence(19, "were it not told: it is, as before").people("5y5n").stones("50").with("carry(0, 0, 1)",
            "carry(1, 0, 2)").unchanged("without(0)", -10).unchanged("without(1)", 5);
        sentence(19, "at the end of the day").people("5y").stones("5050").with("carry(0, 0, 1)", "carry(0, 1, 1)",
            "tide(2, 7)", "tide(3, 9)", "set(0, 2)").due("without(0)", 12).with("set(0, 3)").due("without(0)", 14);
    }

    private static void settled() {
        sentence(20, "NONE: at the end it is 0").with("tide(0, 1)", "tide(11, 1)").due("settled()", NONE)
            .with("tide(12, 1)").due("settled()", 11).with("tide(12, 0)").due("settled()", NONE);
        sentence(20, "above 0: at the end alone").with("tide(12, 1)").due("settled()", 12);
        sentence(20, "below 0: at the end alone").with("tide(12, -1)").due("settled()", 12);
        Run whole = sentence(20, "from hour 0 on, above");
        Run wholeBelow = sentence(20, "from hour 0 on, below");
        for (int hour = 0; hour <= 12; hour++) {
            whole.with("tide(" + hour + ", 1)");
            wholeBelow.with("tide(" + hour + ", -1)");
        }
        whole.due("settled()", 0).with("tide(0, 0)").due("settled()", 1).with("tide(0, -1)").due("settled()", 1)
            .with("tide(6, 0)").due("settled()", 7).with("tide(11, -50)").due("settled()", 12);
        wholeBelow.due("settled()", 0).with("tide(0, 0)").due("settled()", 1).with("tide(0, 1)").due("settled()", 1)
            .with("tide(6, 0)").due("settled()", 7).with("tide(11, 50)").due("settled()", 12);
        sentence(20, "at each hour as at the end: a 0 between is not").with("tide(10, 1)", "tide(12, 1)")
            .due("settled()", 12).with("tide(11, 1)").due("settled()", 10);
        sentence(20, "by a STONE that was laid").people("5y").stones("53").with("carry(0, 0, 1)").due("settled()", 4)
            .with("tide(3, 1)").due("settled()", 3).with("tide(3, -1)").due("settled()", 4);
    }

    private static void settledByTheDay() {
        sentence(20, "the shortest day").with("set(0, 1)", "tide(1, 1)").due("settled()", 1).with("tide(0, 1)")
            .due("settled()", 0).with("tide(1, -1)").due("settled()", 1).with("tide(1, 0)").due("settled()", NONE);
        sentence(20, "the longest day").with("set(0, 24)", "tide(24, -1)").due("settled()", 24).with("tide(23, -1)")
            .due("settled()", 23).with("set(0, 23)").due("settled()", 23).with("set(0, 22)").due("settled()", NONE);
        sentence(20, "what comes behind the day does not count").with("tide(12, 1)", "tide(13, -1)").due("settled()", 12)
            .with("set(0, 13)").due("settled()", 13);
    }

    private static void doubles() {
        sentence(21, "none: no CARRIES, and each STONE told once").due("doubles()", 0).with("carry(0, 0, 1)")
            .due("doubles()", 0).with("carry(0, 8, 1)").due("doubles()", 0);
        sentence(21, "in more than one CARRY: two, three, and all").times(2, "carry(0, 3, 1)").due("doubles()", 8)
            .times(1, "carry(0, 3, 1)").due("doubles()", 8).times(27, "carry(0, 3, 1)").due("doubles()", 8);
        sentence(21, "the first and the last STONE, as bits").times(2, "carry(0, 0, 1)").due("doubles()", 1)
            .times(2, "carry(7, 8, 5)").due("doubles()", 257);
        Run all = sentence(21, "all nine");
        for (int s = 0; s <= 8; s++) {
            all.times(2, "carry(0, " + s + ", 1)").due("doubles()", (2 << s) - 1);
        }
        all.due("doubles()", 511);
        sentence(21, "told, whatever the LAW says").people("5y").stones("50").with("carry(0, 0, 1)", "carry(0, 0, 1)",
            "carry(7, 7, 1)", "carry(6, 7, 2)").due("doubles()", 129);
        sentence(21, "one undone").times(2, "carry(0, 4, 1)").due("doubles()", 16).with("undo()").due("doubles()", 0);
    }

    /** Not refused, but as a refused call is: what was there before a question is there behind it. */
    private static void asking() {
        String[] questions = {
            "tip(0)", "tip(3)", "tip(24)", "shelf(0, 5, 0)", "shelf(1, 1, 24)", "slid(0)", "slid(24)", "when()",
            "result(0)", "result(1)", "result(2)", "without(0)", "without(5)", "settled()", "doubles()", "judged()",
            "laid(0)", "laid(5)", "fault(0)", "fault(1)", "person(0, 2)", "stone(8, 2)", "count(5)", "count(6)",
            "fewest(0)", "fewest(1)", "most(0)", "most(1)", "hold(0)", "hold(1)", "game(1, 0)", "game(4, 1)",
            "secret(0, 0)", "secret(3, 1)", "get(0, 0, 1)",
        };
        Run busy = sentence(14, "to ask changes nothing").people("9y7n3y9n").stones("905142331524605040").row(0, 0, 5, 6)
            .with("set(1, 12)", "tide(3, -9)", "tide(12, 4)", "arm(2, 5)", "carry(0, 0, 5)", "carry(1, 1, 1)",
                "carry(0, 8, 5)", "carry(3, 0, 2)", "carry(3, 3, 1)", "carry(1, 2, 1)");
        for (String question : questions) {
            busy.unchanged(question, busy.branch().askedNow(question));
        }
    }
}
