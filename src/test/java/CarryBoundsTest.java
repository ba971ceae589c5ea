/** Promises 9 to 13, sentence by sentence: the CARRIES, told, read, undone, and judged by LAW. */
public final class CarryBoundsTest extends Sentences {
    public static void main(String[] args) {
        carry();
        carryIsFull();
        readSheets();
        readWhole();
        readAsLongAsEachMayBe();
        readUntilFull();
        undo();
        judged();
        laid();
        lawOfBeingThere();
        lawOfWeight();
        lawOfTheDay();
        lawDoesNothing();
        end("CarryBoundsTest", 9, 13);
    }

    private static void carry() {
        sentence(9, "one of the PEOPLE (0 to 7): the first and the last").due("carry(0, 0, 1)", 1).due("carry(7, 0, 1)", 2);
        sentence(9, "one of the PEOPLE: below 0, above 7").with("carry(0, 0, 1)").refused("carry(-1, 0, 1)", BAD)
            .refused("carry(8, 0, 1)", BAD).refused("carry(MIN, 0, 1)", BAD).refused("carry(MAX, 0, 1)", BAD)
            .due("count(4)", 1);
        sentence(9, "a STONE (0 to 8): the first and the last").due("carry(0, 0, 1)", 1).due("carry(0, 8, 1)", 2);
        sentence(9, "a STONE: below 0, above 8").with("carry(0, 0, 1)").refused("carry(0, -1, 1)", BAD)
            .refused("carry(0, 9, 1)", BAD).refused("carry(0, MIN, 1)", BAD).refused("carry(0, MAX, 1)", BAD)
            .due("count(4)", 1);
        sentence(9, "its ARM (1 to 5): the first and the last").due("carry(0, 0, 1)", 1).due("carry(0, 0, 5)", 2);
        sentence(9, "its ARM: below 1, above 5").with("carry(0, 0, 1)").refused("carry(0, 0, 0)", BAD)
            .refused("carry(0, 0, 6)", BAD).refused("carry(0, 0, -1)", BAD).refused("carry(0, 0, MIN)", BAD)
            .refused("carry(0, 0, MAX)", BAD).due("count(4)", 1);
        sentence(9, "a CARRY against the LAW is told, too").due("carry(7, 8, 5)", 1).due("carry(7, 8, 5)", 2)
            .due("count(4)", 2).due("count(5)", 2);
        sentence(9, "refused as BAD, it is not judged").people("5y").stones("50").refused("carry(0, 0, 6)", BAD)
            .due("carry(0, 0, 5)", 1).due("laid(0)", 1);
    }

    private static void carryIsFull() {
        Run thirty = sentence(9, "CARRIES, 30 at most: how many");
        for (int i = 1; i <= 30; i++) {
            thirty.due("carry(7, 8, 5)", i);
        }
        thirty.refused("carry(7, 8, 5)", FULL).refused("carry(0, 0, 1)", FULL).due("count(4)", 30);
        sentence(9, "BAD ahead of FULL").times(30, "carry(0, 0, 1)").refused("carry(8, 0, 1)", BAD)
            .refused("carry(-1, 0, 1)", BAD).refused("carry(0, 9, 1)", BAD).refused("carry(0, -1, 1)", BAD)
            .refused("carry(0, 0, 0)", BAD).refused("carry(0, 0, 6)", BAD);
        sentence(9, "one undone, there is room for one").times(30, "carry(0, 0, 1)").due("undo()", 29)
            .due("carry(1, 1, 1)", 30).refused("carry(1, 1, 1)", FULL);
        sentence(9, "the thirtieth is judged as any").people("5y").stones("50").times(29, "carry(1, 0, 1)")
            .due("carry(0, 0, 5)", 30).due("laid(29)", 1).due("tip(1)", 25).refused("carry(0, 0, 4)", FULL)
            .refused("carry(1, 0, 5)", FULL).refused("carry(0, 1, 5)", FULL);
    }

    private static void readSheets() {
        Run each = sentence(10, "a SHEET: 0 .. 3");
        for (int s = 0; s <= 3; s++) {
            each.row(s, s % 3, 0, 0, 1).due("read(" + s + ")", 1);
        }
        each.due("count(4)", 4);
        sentence(10, "no such SHEET").row(0, 0, 0, 0, 1).refused("read(-1)", BAD).refused("read(4)", BAD)
            .refused("read(MIN)", BAD).refused("read(MAX)", BAD).due("count(4)", 0);
        sentence(10, "NULL: the SHEET is LOST").row(0, 0, 0, 0, 1).refused("read(1)", NULL).with("lose(0)")
            .refused("read(0)", NULL).due("count(4)", 0);
        sentence(10, "NULL, though there is no room").row(0, 0, 0, 0, 1).times(30, "carry(0, 0, 1)")
            .refused("read(3)", NULL).refused("read(4)", BAD).unchanged("read(0)", 0);
        sentence(10, "the SHEET stays as it was").row(2, 1, 7, 8, 5, 0, 0).due("read(2)", 1).dueRow(2, 1, 7, 8, 5, 0, 0)
            .due("read(2)", 1).due("count(4)", 2);
        sentence(10, "how many: of those that come, not of all").row(0, 2, 0, 0, 1, 0, 0, 2).times(5, "carry(1, 1, 1)")
            .due("read(0)", 2).due("count(4)", 7);
    }

    private static void readWhole() {
        sentence(10, "as many as are whole: no items").with("sheet(0, 0, 0)").unchanged("read(0)", 0);
        sentence(10, "as many as are whole: one, two, three items").row(0, 0, 0).unchanged("read(0)", 0)
            .row(0, 0, 0, 0).unchanged("read(0)", 0).row(0, 0, 0, 0, 1).due("read(0)", 1);
        sentence(10, "as many as are whole: four, five, six items").row(0, 0, 0, 0, 1, 0).due("read(0)", 1)
            .row(0, 0, 0, 0, 1, 0, 0).due("read(0)", 1).row(0, 0, 0, 0, 1, 0, 0, 1).due("read(0)", 2);
        Run all = sentence(10, "of 60 items 20, of 59 items 19");
        for (int n = 59; n <= 60; n++) {
            all.anew().with("sheet(1, 1, " + n + ")");
            for (int i = 2; i < n; i += 3) {
                all.with("lay(1, 1, " + i + ", 5)");
            }
            all.due("read(1)", n / 3).due("count(4)", n / 3);
        }
        sentence(10, "PERSON, STONE, ARM: in this order").people("1y2y3y").stones("1030").row(0, 0, 2, 1, 4)
            .due("read(0)", 1).due("stone(1, 2)", 2).due("shelf(0, 4, 1)", 3);
    }

    private static void readAsLongAsEachMayBe() {
        sentence(10, "each may be: the least and the greatest").row(0, 0, 0, 0, 1, 7, 8, 5).due("read(0)", 2);
        Run first = sentence(10, "as long as each may be: the first may not");
        Run second = sentence(10, "as long as each may be: the second may not, the third would");
        int[][] wrong = {
            {-1, 0, 1}, {8, 0, 1}, {0, -1, 1}, {0, 9, 1}, {0, 0, 0}, {0, 0, 6}, {0, 0, -1}, {-128, 0, 1}, {127, 0, 1},
            {0, -128, 1}, {0, 127, 1}, {0, 0, -128}, {0, 0, 127},
        };
        for (int[] w : wrong) {
            first.anew().row(0, 0, w[0], w[1], w[2], 0, 0, 1).unchanged("read(0)", 0).due("count(4)", 0);
            second.anew().row(0, 0, 7, 8, 5, w[0], w[1], w[2], 0, 0, 1).due("read(0)", 1).due("count(4)", 1)
                .due("doubles()", 0).due("undo()", 0);
        }
        sentence(10, "ints far away may not").row(2, 2, LEAST_INT, 0, 1).unchanged("read(2)", 0)
            .row(2, 2, 0, Integer.MAX_VALUE, 1).unchanged("read(2)", 0).row(2, 2, 0, 0, LEAST_INT).unchanged("read(2)", 0);
        sentence(10, "items of bytes have their lowest bits").row(0, 0, 263, 264, 261).due("read(0)", 1)
            .row(0, 0, 264, 0, 1).unchanged("read(0)", 0).row(0, 0, 256, 256, 257).due("read(0)", 1)
            .row(0, 0, 0, 0, 256).unchanged("read(0)", 0);
        sentence(10, "items of shorts have their lowest bits").row(1, 1, 65543, 65544, 65541).due("read(1)", 1)
            .row(1, 1, 263, 0, 1).unchanged("read(1)", 0).row(1, 1, 65544, 0, 1).unchanged("read(1)", 0);
        sentence(10, "items of ints are as they were laid").row(2, 2, 65543, 0, 1).unchanged("read(2)", 0);
        sentence(10, "against the LAW each may be").row(0, 0, 7, 8, 5, 7, 8, 5).due("read(0)", 2).due("count(5)", 2)
            .due("doubles()", 256);
        sentence(10, "what is read is judged").people("5y").stones("5060").row(0, 0, 0, 0, 5, 0, 1, 5, 0, 0, 5)
            .due("read(0)", 3).due("laid(0)", 1).due("laid(1)", NONE).due("laid(2)", NONE).due("judged()", 1);
    }

    private static void readUntilFull() {
        sentence(10, "30 at most: room for two of three").times(28, "carry(0, 0, 1)")
            .row(0, 0, 1, 1, 1, 2, 2, 2, 3, 3, 3).due("read(0)", 2).due("count(4)", 30).unchanged("read(0)", 0)
            .due("doubles()", 1);
        sentence(10, "30 at most: room for one").times(29, "carry(0, 0, 1)").row(0, 0, 1, 1, 1, 2, 2, 2)
            .due("read(0)", 1).due("count(4)", 30);
        sentence(10, "30 at most: just as much room").times(28, "carry(0, 0, 1)").row(0, 0, 1, 1, 1, 2, 2, 2)
            .due("read(0)", 2).due("count(4)", 30);
        sentence(10, "30 at most: no room").times(30, "carry(0, 0, 1)").row(0, 0, 1, 1, 1).unchanged("read(0)", 0)
            .due("undo()", 29).due("read(0)", 1);
    }

    private static void undo() {
        sentence(11, "NOT: none").refused("undo()", NOT).with("carry(0, 0, 1)").due("undo()", 0).refused("undo()", NOT);
        sentence(11, "NOT is no FINDING").due("read(0)", NULL).refused("undo()", NOT).due("count(8)", 1);
        Run all = sentence(11, "how many are left").times(30, "carry(0, 0, 1)");
        for (int left = 29; left >= 0; left--) {
            all.due("undo()", left);
        }
        all.due("undo()", NOT).due("count(4)", 0);
        sentence(11, "The last CARRY, no other").people("5y").stones("5010").with("carry(0, 0, 1)", "carry(0, 1, 2)")
            .due("undo()", 1).due("shelf(0, 1, 24)", 5).due("shelf(0, 2, 24)", 0).due("laid(0)", 1)
            .refused("laid(1)", BAD);
        sentence(11, "a CARRY against the LAW is undone, too").people("5y").stones("50")
            .with("carry(0, 0, 1)", "carry(0, 0, 2)").due("undo()", 1).due("tip(24)", 5).due("doubles()", 0)
            .due("judged()", NONE);
        sentence(11, "undone, its STONE was not carried").people("5y").stones("50").with("carry(0, 0, 1)", "undo()")
            .due("stone(0, 2)", NONE).due("person(0, 2)", 0).with("carry(0, 0, 2)").due("laid(0)", 1);
    }

    private static void judged() {
        sentence(12, "NONE: no CARRIES").due("judged()", NONE);
        Run nine = sentence(12, "NONE: nine and all by LAW").people("9y").stones("909090909090909090");
        for (int s = 0; s <= 8; s++) {
            nine.with("carry(0, " + s + ", 5)").due("judged()", NONE);
        }
        nine.with("carry(0, 0, 5)").due("judged()", 9).times(20, "carry(0, 8, 5)").due("judged()", 9);
        sentence(12, "the first CARRY that is: 0").with("carry(0, 0, 1)").due("judged()", 0).with("carry(0, 0, 1)")
            .due("judged()", 0);
        sentence(12, "the first of more").people("5y").stones("5060").with("carry(0, 0, 1)", "carry(0, 1, 1)",
            "carry(0, 0, 1)", "carry(1, 0, 1)").due("judged()", 1);
        sentence(12, "judged anew by another day").people("5y").stones("52").with("carry(0, 0, 1)", "set(0, 3)")
            .due("judged()", NONE).with("set(0, 2)").due("judged()", 0).with("set(0, 24)").due("judged()", NONE);
        sentence(12, "one that is undone").people("5y").stones("50").with("carry(0, 0, 1)", "carry(0, 0, 1)")
            .due("judged()", 1).with("undo()").due("judged()", NONE);
    }

    private static void laid() {
        sentence(13, "a CARRY: the first and the last").people("5y").stones("50").with("carry(0, 0, 1)")
            .times(29, "carry(0, 0, 1)").due("laid(0)", 1).due("laid(1)", NONE).due("laid(29)", NONE);
        sentence(13, "no such CARRY").people("5y").stones("50").refused("laid(0)", BAD).with("carry(0, 0, 1)")
            .refused("laid(-1)", BAD).refused("laid(1)", BAD).refused("laid(29)", BAD).refused("laid(30)", BAD)
            .refused("laid(MIN)", BAD).refused("laid(MAX)", BAD);
        sentence(13, "no such CARRY, of thirty").times(30, "carry(0, 0, 1)").refused("laid(30)", BAD)
            .refused("laid(-1)", BAD).due("laid(29)", NONE);
        sentence(13, "no such CARRY: it is undone").people("5y").stones("50").with("carry(0, 0, 1)", "undo()")
            .refused("laid(0)", BAD);
    }

    private static void lawOfBeingThere() {
        sentence(13, "LAW: both are there: the last one, and the next").people("5y5n").stones("50504030")
            .with("carry(1, 0, 1)", "carry(2, 1, 1)", "carry(7, 2, 1)").due("laid(0)", 1).due("laid(1)", NONE)
            .due("laid(2)", NONE);
        sentence(13, "LAW: both are there: the last STONE, and the next").people("5y5n").stones("5050")
            .with("carry(0, 1, 1)", "carry(0, 2, 1)", "carry(0, 8, 1)").due("laid(0)", 1).due("laid(1)", NONE)
            .due("laid(2)", NONE);
        sentence(13, "LAW: both are there: neither is").with("carry(0, 0, 1)").due("laid(0)", NONE).people("5y")
            .due("laid(0)", NONE).stones("50").due("laid(0)", 1);
        sentence(13, "LAW: both are there: who was there, and is no more").people("9y9y9y9n").stones("50505050")
            .with("carry(3, 0, 1)", "carry(0, 3, 1)", "carry(2, 1, 1)", "carry(0, 2, 1)").due("count(5)", 0)
            .with("wipe(0)").people("9y").due("laid(0)", NONE).due("laid(1)", 1).due("laid(2)", NONE).due("laid(3)", 2)
            .with("wipe(1)").stones("50").due("laid(1)", NONE).due("laid(3)", NONE).due("count(5)", 4);
        sentence(13, "LAW: both are there: all but the first, with a FAULT").people("9y9y9y").stones("505050")
            .with("carry(1, 1, 1)", "carry(2, 2, 1)").due("count(5)", 0).people("9").due("laid(0)", NONE)
            .due("laid(1)", NONE).people("y").due("count(5)", 0).stones("x").due("laid(0)", NONE).due("laid(1)", NONE);
        sentence(13, "LAW: the eighth and the ninth").people("1y1y1y1y1y1y1y9n").stones("101010101010101090")
            .with("carry(7, 8, 5)").due("laid(0)", 1).due("tip(1)", -45);
        sentence(13, "LAW: the STONE was not carried yet").people("5y5n").stones("50").with("carry(0, 0, 1)",
            "carry(0, 0, 1)", "carry(1, 0, 1)").due("laid(0)", 1).due("laid(1)", NONE).due("laid(2)", NONE);
        sentence(13, "LAW: told, but not carried, it can be").people("4y5n").stones("50").with("carry(0, 0, 1)",
            "carry(1, 0, 1)", "carry(1, 0, 2)").due("laid(0)", NONE).due("laid(1)", 1).due("laid(2)", NONE);
        sentence(13, "LAW: it slid, but was carried").people("5y5n").stones("50").with("set(1, 4)", "carry(0, 0, 1)",
            "carry(1, 0, 1)").due("slid(1)", 1).due("laid(0)", 1).due("laid(1)", NONE);
    }

    private static void lawOfWeight() {
        Run weights = sentence(13, "LAW: its WEIGHT is no more than one's STRENGTH");
        for (int strength = 1; strength <= 9; strength++) {
            for (int weight = 1; weight <= 9; weight++) {
                weights.anew().people(strength + "y").stones(weight + "0").with("carry(0, 0, 1)")
                    .due("laid(0)", weight <= strength ? 1 : NONE);
            }
        }
        sentence(13, "LAW: the STRENGTH of who carries, not of another").people("9y1y9y").stones("20")
            .with("carry(1, 0, 1)").due("laid(0)", NONE);
    }

    private static void lawOfTheDay() {
        Run ways = sentence(13, "a CARRY takes WAY and 1 hours, by the end of the day");
        for (int way = 0; way <= 9; way++) {
            ways.anew().people("5y").stones("5" + way).with("carry(0, 0, 1)").due("laid(0)", way + 1)
                .with("set(0, " + (way + 1) + ")").due("laid(0)", way + 1);
            if (way > 0) {
                ways.with("set(0, " + way + ")").due("laid(0)", NONE);
            }
        }
        sentence(13, "by the end of the shortest day").people("5y").stones("5051").with("set(0, 1)", "carry(0, 0, 1)",
            "carry(0, 1, 1)").due("laid(0)", 1).due("laid(1)", NONE);
        sentence(13, "by the end of the longest day").people("5y5y").stones("5959535954")
            .with("set(0, 24)", "carry(0, 0, 1)", "carry(0, 1, 1)", "carry(0, 2, 1)", "carry(1, 3, 1)", "carry(1, 4, 1)")
            .due("laid(0)", 10).due("laid(1)", 20).due("laid(2)", 24).due("laid(3)", 10).due("laid(4)", 15)
            .with("undo()", "undo()", "undo()", "carry(0, 4, 1)").due("laid(2)", NONE);
        sentence(13, "One begins at hour 0").people("5y5y").stones("5352").with("carry(0, 0, 1)", "carry(1, 1, 1)")
            .due("laid(0)", 4).due("laid(1)", 3);
        sentence(13, "or at that at which one laid the last STONE").people("5y5y").stones("535250")
            .with("carry(0, 0, 1)", "carry(0, 1, 1)", "carry(0, 2, 1)").due("laid(0)", 4).due("laid(1)", 7)
            .due("laid(2)", 8);
        sentence(13, "at the end of the day none is left").people("5y").stones("5150").with("set(0, 2)",
            "carry(0, 0, 1)", "carry(0, 1, 1)").due("laid(0)", 2).due("laid(1)", NONE).with("set(0, 3)").due("laid(1)", 3);
    }

    private static void lawDoesNothing() {
        sentence(13, "What is against the LAW does nothing: no hours").people("5y").stones("695950")
            .with("carry(0, 0, 1)", "carry(0, 1, 1)", "carry(0, 1, 1)", "carry(0, 2, 1)").due("laid(0)", NONE)
            .due("laid(1)", 10).due("laid(2)", NONE).due("laid(3)", 11).due("person(0, 2)", 11);
        sentence(13, "What is against the LAW does nothing: too late, and then one in time").people("5y")
            .stones("585950").with("carry(0, 0, 1)", "carry(0, 1, 1)", "carry(0, 2, 1)").due("laid(0)", 9)
            .due("laid(1)", NONE).due("laid(2)", 10).due("stone(1, 2)", NONE);
        sentence(13, "What is against the LAW does nothing: no heap").people("5y").stones("60").with("carry(0, 0, 5)")
            .due("tip(24)", 0).due("slid(24)", 0).due("count(6)", 0).due("shelf(0, 5, 24)", 0).due("result(2)", 0)
            .due("stone(0, 2)", NONE);
        sentence(13, "What is against the LAW does nothing: nothing slides for it").people("5y").stones("5060")
            .with("set(1, 5)", "carry(0, 0, 5)", "carry(0, 1, 5)", "carry(0, 0, 5)").due("shelf(0, 5, 24)", 5)
            .due("slid(24)", 0);
    }
}
