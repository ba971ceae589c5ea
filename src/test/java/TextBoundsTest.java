/** Promises 1 to 8, sentence by sentence: a new object, the texts and their FAULT, PEOPLE, STONES, HOURS, LOAD, TIDE. */
public final class TextBoundsTest extends Sentences {
    private static final String EIGHT = "1y2n3y4n5y6n7y8n";
    private static final String NINE = "102132435465768798";

    public static void main(String[] args) {
        newObject();
        newObjectAnswers();
        type();
        typeIsFull();
        wipe();
        faultOfPeople();
        faultOfStones();
        faultWhereItIs();
        faultMeansNone();
        person();
        stone();
        set();
        tide();
        end("TextBoundsTest", 1, 8);
    }

    private static void newObject() {
        sentence(1, "Empty texts").due("count(2)", 0).due("count(3)", 0).due("count(0)", 0).due("count(1)", 0)
            .due("wipe(0)", 0).due("wipe(1)", 0);
        sentence(1, "no CARRIES").due("count(4)", 0).due("count(5)", 0).due("count(6)", 0).due("doubles()", 0);
        Run lost = sentence(1, "all SHEETS are LOST");
        for (int s = 0; s <= 3; s++) {
            lost.due("lose(" + s + ")", NULL).due("read(" + s + ")", NULL).due("write(" + s + ")", NULL);
        }
        sentence(1, "HOURS (12 at first)").due("count(7)", 12).due("set(0, 12)", 12);
        sentence(1, "LOAD (99 at first)").due("set(1, 99)", 99);
        Run tides = sentence(1, "TIDE of each hour (0 at first)");
        for (int hour = 0; hour <= 24; hour++) {
            tides.due("tip(" + hour + ")", 0).due("tide(" + hour + ", 0)", 0);
        }
        Run arms = sentence(1, "an ARM (1 at first)");
        for (int p = 0; p <= 7; p++) {
            arms.due("arm(" + p + ", 1)", 1);
        }
        sentence(1, "the latest FINDING (0 before any)").due("count(8)", 0);
    }

    private static void newObjectAnswers() {
        sentence(1, "what is asked of nothing").due("fault(0)", NONE).due("fault(1)", NONE).due("judged()", NONE)
            .due("when()", NONE).due("settled()", NONE).due("fewest(0)", NONE).due("fewest(1)", NONE)
            .due("hold(0)", NONE).due("hold(1)", NONE).due("game(1, 1)", NONE).due("game(4, 1)", NONE)
            .due("result(0)", 0).due("result(1)", 0).due("result(2)", 0).due("most(0)", 0).due("most(1)", 0)
            .due("game(1, 0)", 0).due("game(4, 0)", 0).due("slid(0)", 0).due("slid(24)", 0)
            .due("shelf(0, 1, 0)", 0).due("shelf(1, 5, 24)", 0).due("secret(0, 0)", 1).due("secret(1, 0)", 0);
        sentence(1, "what is refused of nothing").refused("undo()", NOT).refused("laid(0)", BAD)
            .refused("person(0, 0)", BAD).refused("stone(0, 0)", BAD).refused("without(0)", BAD_NUMBER)
            .refused("lose(0)", NULL).refused("get(3, 2, 0)", LEAST_INT, 1);
        Run other = sentence(1, "a new object has nothing of another one").people(EIGHT).stones(NINE)
            .with("set(0, 24)", "set(1, 1)", "tide(0, 50)", "tide(24, -50)", "carry(7, 8, 5)", "arm(0, 5)", "arm(7, 0)")
            .row(0, 0, 1, 2, 3).row(3, 2, 9);
        other.due("sheet(1, 1, -1)", SIZE).anew();
        for (int what = 0; what <= 8; what++) {
            other.due("count(" + what + ")", what == 7 ? 12 : 0);
        }
        other.due("set(1, 99)", 99).due("tide(0, 0)", 0).due("tide(24, 0)", 0).due("arm(0, 1)", 1).due("arm(7, 1)", 1)
            .due("lose(0)", NULL).due("lose(3)", NULL);
    }

    private static void type() {
        sentence(2, "A byte (0 to 255): the least and the greatest").due("type(0, 0)", 1).due("type(0, 255)", 2)
            .due("type(1, 0)", 1).due("type(1, 255)", 2);
        sentence(2, "A byte: below 0").people("5y").refused("type(0, -1)", BAD).refused("type(1, -1)", BAD)
            .refused("type(0, -207)", BAD).refused("type(0, MIN)", BAD);
        sentence(2, "A byte: above 255").people("5").refused("type(0, 256)", BAD).refused("type(1, 256)", BAD)
            .refused("type(0, 377)", BAD).refused("type(0, MAX)", BAD).due("count(2)", 1);
        sentence(2, "a text: 0 and 1, each by itself").due("type(0, 49)", 1).due("type(1, 49)", 1)
            .due("type(1, 48)", 2).due("count(2)", 1).due("count(3)", 2);
        sentence(2, "no such text").refused("type(-1, 49)", BAD).refused("type(2, 49)", BAD)
            .refused("type(MIN, 49)", BAD).refused("type(MAX, 49)", BAD);
        Run many = sentence(2, "how many");
        for (int i = 1; i <= 16; i++) {
            many.due("type(0, 49)", i).due("type(1, 49)", i);
        }
    }

    private static void typeIsFull() {
        sentence(2, "PEOPLE are a text of up to 16 bytes").people("1y2n3y4n5y6n7y8").due("type(0, 'n')", 16)
            .due("count(0)", 8).refused("type(0, '9')", FULL).refused("type(0, 0)", FULL).due("count(2)", 16)
            .due("count(0)", 8);
        sentence(2, "STONES are a text of up to 20 bytes").stones("1020304050607080901").due("type(1, '0')", 20)
            .refused("type(1, '1')", FULL).refused("type(1, 255)", FULL).due("count(3)", 20);
        sentence(2, "a text with a FAULT is FULL, too").times(16, "type(0, 0)").refused("type(0, 'y')", FULL);
        sentence(2, "a full text leaves the other one room").people(EIGHT).due("type(1, 49)", 1)
            .anew().times(20, "type(1, 49)").due("type(0, 49)", 1);
        sentence(2, "BAD ahead of FULL").people(EIGHT).times(20, "type(1, 49)").refused("type(0, 256)", BAD)
            .refused("type(0, -1)", BAD).refused("type(1, 256)", BAD).refused("type(1, -1)", BAD)
            .refused("type(2, 49)", BAD).refused("type(-1, 49)", BAD);
        sentence(2, "a full text that is wiped takes bytes again").people(EIGHT).with("wipe(0)")
            .due("type(0, '9')", 1).due("type(0, 'n')", 2).due("person(0, 0)", 9);
    }

    private static void wipe() {
        sentence(3, "how many bytes it had: none").due("wipe(0)", 0).due("wipe(1)", 0);
        sentence(3, "how many bytes it had: one").with("type(0, 0)", "type(1, 0)").due("wipe(0)", 1).due("wipe(1)", 1);
        sentence(3, "how many bytes it had: all").people(EIGHT).times(20, "type(1, 49)").due("wipe(0)", 16)
            .due("wipe(1)", 20).due("wipe(0)", 0).due("wipe(1)", 0);
        sentence(3, "A text is empty").people(EIGHT).stones("10x").with("wipe(0)", "wipe(1)").due("count(0)", 0)
            .due("count(1)", 0).due("count(2)", 0).due("count(3)", 0).due("fault(0)", NONE).due("fault(1)", NONE);
        sentence(3, "the other text stays").people(EIGHT).stones(NINE).with("wipe(0)").due("count(1)", 9)
            .people("5y").with("wipe(1)").due("count(0)", 1);
        sentence(3, "no such text").people(EIGHT).stones(NINE).refused("wipe(-1)", BAD).refused("wipe(2)", BAD)
            .refused("wipe(MIN)", BAD).refused("wipe(MAX)", BAD);
        sentence(3, "the CARRIES stay as told").people("5y").stones("50").with("carry(0, 0, 5)").due("laid(0)", 1)
            .with("wipe(0)").due("count(4)", 1).due("laid(0)", NONE).people("6n").due("laid(0)", 1)
            .due("tip(1)", -25).with("wipe(1)").due("laid(0)", NONE).stones("61").due("laid(0)", 2);
    }

    private static void faultOfPeople() {
        sentence(4, "an empty one is well").due("fault(0)", NONE).due("fault(1)", NONE);
        sentence(4, "a figure (1 to 9): the least and the greatest").people("1y9y").due("fault(0)", NONE)
            .due("person(0, 0)", 1).due("person(1, 0)", 9);
        sentence(4, "a figure: below 1").people("0y").due("fault(0)", 0).anew().people("5y0n").due("fault(0)", 2);
        sentence(4, "a figure: no figure").people("/y").due("fault(0)", 0).anew().people(":y").due("fault(0)", 0)
            .anew().people("yy").due("fault(0)", 0).anew().with("type(0, 0)").due("fault(0)", 0)
            .anew().with("type(0, 5)").due("fault(0)", 0).anew().with("type(0, 255)").due("fault(0)", 0)
            .anew().with("type(0, 177)").due("fault(0)", 0);
        sentence(4, "a letter (y yes, n no: SIDES 0, 1)").people("1y1n").due("fault(0)", NONE)
            .due("person(0, 1)", 0).due("person(1, 1)", 1);
        Run letters = sentence(4, "a letter: another one");
        for (String text : new String[] {"1x", "1z", "1m", "1o", "1Y", "1N", "11", "1 ", "1\0", "1\u00ff", "1\u00f9"}) {
            letters.anew().people(text).due("fault(0)", 1).due("count(0)", 0);
        }
        sentence(4, "8 at most (PEOPLE)").people(EIGHT).due("fault(0)", NONE).due("count(0)", 8)
            .due("type(0, '1')", FULL).due("fault(0)", NONE);
    }

    private static void faultOfStones() {
        sentence(4, "WEIGHT (1 to 9): the least and the greatest").stones("1090").due("fault(1)", NONE)
            .due("stone(0, 0)", 1).due("stone(1, 0)", 9);
        sentence(4, "WEIGHT: below 1").stones("00").due("fault(1)", 0).anew().stones("5003").due("fault(1)", 2);
        sentence(4, "WEIGHT: no figure").stones("/0").due("fault(1)", 0).anew().stones(":0").due("fault(1)", 0)
            .anew().stones("y0").due("fault(1)", 0).anew().with("type(1, 0)").due("fault(1)", 0)
            .anew().with("type(1, 255)").due("fault(1)", 0).anew().with("type(1, 9)").due("fault(1)", 0);
        sentence(4, "WAY (0 to 9): the least and the greatest").stones("1019").due("fault(1)", NONE)
            .due("stone(0, 1)", 0).due("stone(1, 1)", 9);
        Run ways = sentence(4, "WAY: no figure");
        for (String text : new String[] {"1/", "1:", "1y", "1n", "1 ", "1\0", "1\u00ff", "1\u00b0"}) {
            ways.anew().stones(text).due("fault(1)", 1).due("count(1)", 0);
        }
        sentence(4, "9 at most (STONES)").stones(NINE).due("fault(1)", NONE).due("count(1)", 9);
        sentence(4, "the first byte of one too many").stones(NINE + "1").due("fault(1)", 18).due("count(1)", 0)
            .with("type(1, '0')").due("fault(1)", 18).due("count(1)", 0)
            .anew().stones(NINE + "x").due("fault(1)", 18).with("type(1, 'x')").due("fault(1)", 18);
    }

    private static void faultWhereItIs() {
        Run ends = sentence(4, "of one that is not ended, its end");
        for (int n = 1; n <= 15; n += 2) {
            ends.anew().people(EIGHT.substring(0, n)).due("fault(0)", n).due("count(0)", 0);
        }
        for (int n = 1; n <= 17; n += 2) {
            ends.anew().stones(NINE.substring(0, n)).due("fault(1)", n).due("count(1)", 0);
        }
        Run well = sentence(4, "of one that is ended, NONE");
        for (int n = 2; n <= 16; n += 2) {
            well.anew().people(EIGHT.substring(0, n)).due("fault(0)", NONE).due("count(0)", n / 2);
        }
        for (int n = 2; n <= 18; n += 2) {
            well.anew().stones(NINE.substring(0, n)).due("fault(1)", NONE).due("count(1)", n / 2);
        }
        sentence(4, "the place of the first byte").people("1y0x").due("fault(0)", 2).anew().people("1x0x")
            .due("fault(0)", 1).anew().people("x").due("fault(0)", 0).anew().people("1y2x3").due("fault(0)", 3)
            .anew().stones("1020x0405060708090x0").due("fault(1)", 4).anew().stones("10203040506070809x10")
            .due("fault(1)", 17);
        Run last = sentence(4, "the last byte, too");
        last.people("1y2n3y4n5y6n7y8z").due("fault(0)", 15).anew().people("1y2n3y4n5y6n7y0").due("fault(0)", 14)
            .anew().stones("10213243546576879x").due("fault(1)", 17).anew().stones("10213243546576870").due("fault(1)", 16);
        sentence(4, "each text by its own bytes").people("10").due("fault(0)", 1).anew().stones("1y").due("fault(1)", 1)
            .anew().people("1y").stones("x").due("fault(0)", NONE).due("fault(1)", 0);
        sentence(4, "no such text").people("1x").refused("fault(-1)", BAD).refused("fault(2)", BAD)
            .refused("fault(MIN)", BAD).refused("fault(MAX)", BAD);
    }

    private static void faultMeansNone() {
        sentence(4, "With a FAULT there are none of these (PEOPLE)").people("5y6n").stones("50")
            .with("carry(0, 0, 5)", "tide(12, -1)").people("7").due("count(0)", 0).refused("person(0, 0)", BAD)
            .due("laid(0)", NONE).due("judged()", 0).due("tip(12)", -1).due("count(5)", 1).due("most(0)", 0)
            .due("hold(0)", NONE).due("hold(1)", NONE).due("fewest(0)", NONE).due("game(1, 1)", NONE)
            .due("secret(0, 0)", 1).due("secret(5, 0)", 0).due("stone(0, 2)", NONE);
        sentence(4, "With a FAULT there are none of these (STONES)").people("5y6n").stones("50")
            .with("carry(0, 0, 5)").stones("5").due("count(1)", 0).refused("stone(0, 0)", BAD).due("laid(0)", NONE)
            .due("tip(12)", 0).due("most(0)", 0).due("hold(0)", 0).due("hold(1)", 1).due("fewest(0)", NONE)
            .due("game(1, 1)", NONE).due("person(0, 2)", 0).due("secret(5, 0)", 1);
        sentence(4, "without the FAULT they are there again").people("5y6n7").stones("505").with("carry(0, 0, 5)")
            .due("laid(0)", NONE).with("type(0, 'y')", "type(1, '9')").due("count(0)", 3).due("count(1)", 2)
            .due("laid(0)", 1).due("tip(12)", 25).due("person(2, 0)", 7).due("stone(1, 1)", 9);
    }

    private static void person() {
        sentence(5, "STRENGTH: the least and the greatest").people("1y9n").due("person(0, 0)", 1).due("person(1, 0)", 9);
        sentence(5, "SIDE: 0 and 1").people("1y9n").due("person(0, 1)", 0).due("person(1, 1)", 1);
        sentence(5, "one of the PEOPLE: the first and the last").people(EIGHT).due("person(0, 0)", 1)
            .due("person(7, 0)", 8).due("person(7, 1)", 1).due("person(7, 2)", 0);
        sentence(5, "no such one").people("5y6n").refused("person(-1, 0)", BAD).refused("person(2, 0)", BAD)
            .refused("person(7, 0)", BAD).refused("person(8, 0)", BAD).refused("person(MIN, 0)", BAD)
            .refused("person(MAX, 0)", BAD).due("person(1, 0)", 6);
        sentence(5, "no such one, of eight").people(EIGHT).refused("person(8, 0)", BAD).refused("person(8, 2)", BAD)
            .refused("person(-1, 1)", BAD);
        sentence(5, "nobody").refused("person(0, 0)", BAD).refused("person(0, 1)", BAD).refused("person(0, 2)", BAD);
        sentence(5, "one who was there and is no more").people(EIGHT).with("wipe(0)").people("5y")
            .refused("person(1, 0)", BAD).due("person(0, 0)", 5);
        sentence(5, "what: 0 to 2").people("5y").due("person(0, 0)", 5).due("person(0, 1)", 0).due("person(0, 2)", 0)
            .refused("person(0, -1)", BAD).refused("person(0, 3)", BAD).refused("person(0, MIN)", BAD)
            .refused("person(0, MAX)", BAD);
        sentence(5, "the last STONE was laid (0: none)").people("5y9n").stones("6050").with("carry(0, 0, 1)")
            .due("person(0, 2)", 0).due("person(1, 2)", 0).with("carry(0, 1, 1)").due("person(0, 2)", 1)
            .due("person(1, 2)", 0).with("undo()").due("person(0, 2)", 0);
        sentence(5, "the last STONE, at the end of the longest day").people("9y").stones("191913")
            .with("set(0, 24)", "carry(0, 0, 1)", "carry(0, 1, 1)", "carry(0, 2, 1)").due("person(0, 2)", 24)
            .with("set(0, 23)").due("person(0, 2)", 20).with("set(0, 9)").due("person(0, 2)", 4);
        sentence(5, "a STONE that slid was laid").people("9y").stones("90").with("set(1, 1)", "carry(0, 0, 1)")
            .due("slid(1)", 1).due("person(0, 2)", 1);
    }

    private static void stone() {
        sentence(6, "WEIGHT: the least and the greatest").stones("1090").due("stone(0, 0)", 1).due("stone(1, 0)", 9);
        sentence(6, "WAY: the least and the greatest").stones("1019").due("stone(0, 1)", 0).due("stone(1, 1)", 9);
        sentence(6, "a STONE: the first and the last").stones(NINE).due("stone(0, 0)", 1).due("stone(0, 1)", 0)
            .due("stone(8, 0)", 9).due("stone(8, 1)", 8).due("stone(8, 2)", NONE);
        sentence(6, "no such STONE").stones("5060").refused("stone(-1, 0)", BAD).refused("stone(2, 0)", BAD)
            .refused("stone(8, 0)", BAD).refused("stone(9, 0)", BAD).refused("stone(MIN, 0)", BAD)
            .refused("stone(MAX, 0)", BAD).due("stone(1, 0)", 6);
        sentence(6, "no such STONE, of nine").stones(NINE).refused("stone(9, 0)", BAD).refused("stone(9, 2)", BAD)
            .refused("stone(-1, 1)", BAD);
        sentence(6, "no STONES").refused("stone(0, 0)", BAD).refused("stone(0, 1)", BAD).refused("stone(0, 2)", BAD);
        sentence(6, "one too many: no STONES").stones(NINE + "10").refused("stone(0, 0)", BAD)
            .refused("stone(8, 0)", BAD).refused("stone(9, 0)", BAD);
        sentence(6, "what: 0 to 2").stones("53").due("stone(0, 0)", 5).due("stone(0, 1)", 3).due("stone(0, 2)", NONE)
            .refused("stone(0, -1)", BAD).refused("stone(0, 3)", BAD).refused("stone(0, MIN)", BAD)
            .refused("stone(0, MAX)", BAD);
        sentence(6, "who carried it: the first and the last").people("9y9y9y9y9y9y9y9y").stones(NINE)
            .with("carry(0, 0, 1)", "carry(7, 8, 1)").due("stone(0, 2)", 0).due("stone(8, 2)", 7)
            .due("stone(4, 2)", NONE);
        sentence(6, "who carried it (NONE)").people("5y9n").stones("60").due("stone(0, 2)", NONE)
            .with("carry(0, 0, 1)").due("stone(0, 2)", NONE).with("carry(1, 0, 1)").due("stone(0, 2)", 1)
            .with("undo()").due("stone(0, 2)", NONE);
        sentence(6, "who carried it, though it slid").people("9y9y").stones("90").with("set(1, 8)", "carry(1, 0, 1)")
            .due("slid(1)", 1).due("stone(0, 2)", 1);
    }

    private static void set() {
        sentence(7, "HOURS (1 to 24): the least and the greatest").due("set(0, 1)", 12).due("count(7)", 1)
            .due("set(0, 24)", 1).due("count(7)", 24).due("set(0, 1)", 24);
        sentence(7, "HOURS: below 1").refused("set(0, 0)", BAD).refused("set(0, -1)", BAD).refused("set(0, MIN)", BAD)
            .due("count(7)", 12);
        sentence(7, "HOURS: above 24").refused("set(0, 25)", BAD).refused("set(0, 99)", BAD).refused("set(0, MAX)", BAD)
            .due("count(7)", 12);
        sentence(7, "LOAD (1 to 99): the least and the greatest").due("set(1, 1)", 99).due("set(1, 99)", 1)
            .due("set(1, 24)", 99).due("set(1, 25)", 24).due("set(1, 99)", 25);
        sentence(7, "LOAD: below 1").with("set(1, 7)").refused("set(1, 0)", BAD).refused("set(1, -1)", BAD)
            .refused("set(1, MIN)", BAD).due("set(1, 9)", 7);
        sentence(7, "LOAD: above 99").with("set(1, 7)").refused("set(1, 100)", BAD).refused("set(1, MAX)", BAD)
            .due("set(1, 9)", 7);
        sentence(7, "what it was: each by itself").due("set(0, 3)", 12).due("set(1, 4)", 99).due("set(0, 5)", 3)
            .due("set(1, 6)", 4).due("set(0, 5)", 5).due("set(1, 6)", 6);
        sentence(7, "no such thing to set").refused("set(-1, 5)", BAD).refused("set(2, 5)", BAD)
            .refused("set(MIN, 5)", BAD).refused("set(MAX, 5)", BAD);
    }

    private static void tide() {
        sentence(8, "an hour (0 to 24): the first and the last").due("tide(0, 7)", 0).due("tide(24, 9)", 0)
            .due("tide(0, 0)", 7).due("tide(24, 0)", 9);
        sentence(8, "an hour: below 0").refused("tide(-1, 0)", BAD_NUMBER).refused("tide(-1, 7)", BAD_NUMBER)
            .refused("tide(MIN, 7)", BAD_NUMBER);
        sentence(8, "an hour: above 24").refused("tide(25, 0)", BAD_NUMBER).refused("tide(25, 7)", BAD_NUMBER)
            .refused("tide(MAX, 7)", BAD_NUMBER);
        sentence(8, "an hour behind the end of the day").with("set(0, 1)").due("tide(2, 5)", 0).due("tide(2, 6)", 5)
            .due("tip(2)", 6);
        sentence(8, "-50 to 50: the least and the greatest").due("tide(3, -50)", 0).due("tip(3)", -50)
            .due("tide(3, 50)", -50).due("tip(3)", 50).due("tide(3, 0)", 50);
        sentence(8, "below -50").with("tide(3, 5)").refused("tide(3, -51)", BAD_NUMBER)
            .refused("tide(3, MIN)", BAD_NUMBER).due("tip(3)", 5);
        sentence(8, "above 50").with("tide(3, 5)").refused("tide(3, 51)", BAD_NUMBER)
            .refused("tide(3, MAX)", BAD_NUMBER).due("tip(3)", 5);
        sentence(8, "as any number: what looks like a refusal and is none").due("tide(5, -2)", 0).due("tide(5, -3)", -2)
            .due("tide(5, -11)", -3).due("tide(5, -1)", -11).due("tide(5, 0)", -1).due("count(8)", 0);
        Run each = sentence(8, "TIDE of each hour, by itself");
        for (int hour = 0; hour <= 24; hour++) {
            each.due("tide(" + hour + ", " + (2 * hour - 25) + ")", 0);
        }
        for (int hour = 0; hour <= 24; hour++) {
            each.due("tip(" + hour + ")", 2 * hour - 25);
        }
    }
}
