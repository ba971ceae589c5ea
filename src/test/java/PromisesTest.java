/** For each promise of the document: ordinary inputs, the edges that it names, wrong inputs. */
public final class PromisesTest {
    private static final int LEAST_INT = Integer.MIN_VALUE;
    private static final int BAD_NUMBER = -10002;
    private static int wrong = 0;

    private static void due(int promise, String call, long got, long want) {
        if (got != want) {
            wrong++;
            System.out.println("promise " + promise + ": " + call + " answered " + got + ", due is " + want);
        }
    }

    private static void typeAll(StoneVotes x, int text, String bytes) {
        for (int i = 0; i < bytes.length(); i++) {
            x.type(text, bytes.charAt(i));
        }
    }

    private static StoneVotes island(String people, String stones) {
        StoneVotes x = new StoneVotes();
        typeAll(x, 0, people);
        typeAll(x, 1, stones);
        return x;
    }

    private static int faultOf(int text, String bytes) {
        StoneVotes x = new StoneVotes();
        typeAll(x, text, bytes);
        return x.fault(text);
    }

    public static void main(String[] args) {
        newObject();
        type();
        wipe();
        fault();
        person();
        stone();
        set();
        tide();
        carry();
        read();
        undo();
        judged();
        laid();
        tip();
        shelf();
        slid();
        when();
        result();
        without();
        settled();
        doubles();
        fewest();
        most();
        hold();
        game();
        gameWithTurnsLeftOut();
        fullIsland();
        arm();
        secret();
        sheet();
        lose();
        lay();
        get();
        copy();
        write();
        count();
        digest();
        System.out.println(wrong == 0 ? "PromisesTest: all answers are as due" : wrong + " answers are not as due");
        if (wrong != 0) {
            System.exit(1);
        }
    }

    private static void newObject() {
        StoneVotes x = new StoneVotes();
        for (int what = 0; what <= 8; what++) {
            due(1, "count(" + what + ")", x.count(what), what == 7 ? 12 : 0);
        }
        due(1, "fault(0)", x.fault(0), -1);
        due(1, "fault(1)", x.fault(1), -1);
        due(1, "judged()", x.judged(), -1);
        due(1, "set(1, 99)", x.set(1, 99), 99);
        for (int hour = 0; hour <= 24; hour++) {
            due(1, "tide(" + hour + ", 0)", x.tide(hour, 0), 0);
        }
        for (int p = 0; p <= 7; p++) {
            due(1, "arm(" + p + ", 1)", x.arm(p, 1), 1);
        }
        for (int s = 0; s <= 3; s++) {
            due(1, "lose(" + s + ")", x.lose(s), -11);
        }
    }

    private static void type() {
        StoneVotes x = new StoneVotes();
        for (int i = 1; i <= 16; i++) {
            due(2, "type(0, 255)", x.type(0, 255), i);
        }
        due(2, "type(0, 255) at 16", x.type(0, 255), -4);
        for (int i = 1; i <= 20; i++) {
            due(2, "type(1, 0)", x.type(1, 0), i);
        }
        due(2, "type(1, 0) at 20", x.type(1, 0), -4);
        due(2, "count(2)", x.count(2), 16);
        due(2, "count(3)", x.count(3), 20);
        due(2, "type(0, 256) at 16", x.type(0, 256), -2);
        due(2, "type(1, -1) at 20", x.type(1, -1), -2);
        due(2, "type(-1, 0)", x.type(-1, 0), -2);
        due(2, "type(2, 0)", x.type(2, 0), -2);
    }

    private static void wipe() {
        StoneVotes x = island("5y3n", "503");
        due(3, "wipe(0)", x.wipe(0), 4);
        due(3, "wipe(0)", x.wipe(0), 0);
        due(3, "count(0)", x.count(0), 0);
        due(3, "count(3)", x.count(3), 3);
        due(3, "fault(1)", x.fault(1), 3);
        due(3, "wipe(1)", x.wipe(1), 3);
        due(3, "fault(1)", x.fault(1), -1);
        due(3, "type(1, 49)", x.type(1, '1'), 1);
        due(3, "wipe(-1)", x.wipe(-1), -2);
        due(3, "wipe(2)", x.wipe(2), -2);
        StoneVotes y = island("5y", "50");
        y.carry(0, 0, 5);
        due(3, "tip(12)", y.tip(12), 25);
        y.wipe(0);
        due(3, "tip(12) with nobody", y.tip(12), 0);
        due(3, "laid(0) with nobody", y.laid(0), -1);
    }

    private static void fault() {
        due(4, "people ''", faultOf(0, ""), -1);
        due(4, "people '1y'", faultOf(0, "1y"), -1);
        due(4, "people '9n1y'", faultOf(0, "9n1y"), -1);
        due(4, "people '0y'", faultOf(0, "0y"), 0);
        due(4, "people 'y'", faultOf(0, "y"), 0);
        due(4, "people ':y'", faultOf(0, ":y"), 0);
        due(4, "people '3'", faultOf(0, "3"), 1);
        due(4, "people '3y4'", faultOf(0, "3y4"), 3);
        due(4, "people '3Y'", faultOf(0, "3Y"), 1);
        due(4, "people '33'", faultOf(0, "33"), 1);
        due(4, "people '3y4m5'", faultOf(0, "3y4m5"), 3);
        due(4, "people of 8", faultOf(0, "1y2n3y4n5y6n7y8n"), -1);
        due(4, "stones ''", faultOf(1, ""), -1);
        due(4, "stones '10'", faultOf(1, "10"), -1);
        due(4, "stones '9910'", faultOf(1, "9910"), -1);
        due(4, "stones '01'", faultOf(1, "01"), 0);
        due(4, "stones '1/'", faultOf(1, "1/"), 1);
        due(4, "stones '1:'", faultOf(1, "1:"), 1);
        due(4, "stones '1y'", faultOf(1, "1y"), 1);
        due(4, "stones '104'", faultOf(1, "104"), 3);
        due(4, "stones of 9", faultOf(1, "102030405060708090"), -1);
        due(4, "stones of 9 and a byte", faultOf(1, "1020304050607080901"), 18);
        due(4, "stones of 10", faultOf(1, "10203040506070809010"), 18);
        due(4, "stones of 10, 'x' at 4", faultOf(1, "1020x040506070809010"), 4);
        StoneVotes x = new StoneVotes();
        due(4, "fault(-1)", x.fault(-1), -2);
        due(4, "fault(2)", x.fault(2), -2);
    }

    private static void person() {
        StoneVotes x = island("5y9n", "5330");
        due(5, "person(0, 0)", x.person(0, 0), 5);
        due(5, "person(0, 1)", x.person(0, 1), 0);
        due(5, "person(1, 0)", x.person(1, 0), 9);
        due(5, "person(1, 1)", x.person(1, 1), 1);
        due(5, "person(1, 2)", x.person(1, 2), 0);
        x.carry(1, 0, 1);
        due(5, "person(1, 2)", x.person(1, 2), 4);
        x.carry(1, 1, 1);
        due(5, "person(1, 2)", x.person(1, 2), 5);
        due(5, "person(0, 2)", x.person(0, 2), 0);
        x.undo();
        due(5, "person(1, 2)", x.person(1, 2), 4);
        due(5, "person(2, 0)", x.person(2, 0), -2);
        due(5, "person(-1, 0)", x.person(-1, 0), -2);
        due(5, "person(0, 3)", x.person(0, 3), -2);
        due(5, "person(0, -1)", x.person(0, -1), -2);
        x.type(0, '4');
        due(5, "person(0, 0) with a fault", x.person(0, 0), -2);
    }

    private static void stone() {
        StoneVotes x = island("5y9n", "5960");
        due(6, "stone(0, 0)", x.stone(0, 0), 5);
        due(6, "stone(0, 1)", x.stone(0, 1), 9);
        due(6, "stone(1, 0)", x.stone(1, 0), 6);
        due(6, "stone(1, 1)", x.stone(1, 1), 0);
        due(6, "stone(1, 2)", x.stone(1, 2), -1);
        x.carry(0, 1, 1);
        due(6, "stone(1, 2) too heavy", x.stone(1, 2), -1);
        x.carry(1, 1, 1);
        due(6, "stone(1, 2)", x.stone(1, 2), 1);
        x.carry(0, 0, 1);
        due(6, "stone(0, 2)", x.stone(0, 2), 0);
        due(6, "stone(2, 0)", x.stone(2, 0), -2);
        due(6, "stone(-1, 0)", x.stone(-1, 0), -2);
        due(6, "stone(0, 3)", x.stone(0, 3), -2);
        due(6, "stone(0, -1)", x.stone(0, -1), -2);
        x.type(1, '4');
        due(6, "stone(0, 0) with a fault", x.stone(0, 0), -2);
    }

    private static void set() {
        StoneVotes x = new StoneVotes();
        due(7, "set(0, 1)", x.set(0, 1), 12);
        due(7, "set(0, 24)", x.set(0, 24), 1);
        due(7, "set(0, 0)", x.set(0, 0), -2);
        due(7, "set(0, 25)", x.set(0, 25), -2);
        due(7, "count(7)", x.count(7), 24);
        due(7, "set(1, 1)", x.set(1, 1), 99);
        due(7, "set(1, 99)", x.set(1, 99), 1);
        due(7, "set(1, 0)", x.set(1, 0), -2);
        due(7, "set(1, 100)", x.set(1, 100), -2);
        due(7, "set(1, 25)", x.set(1, 25), 99);
        due(7, "set(1, 99)", x.set(1, 99), 25);
        due(7, "set(2, 1)", x.set(2, 1), -2);
        due(7, "set(-1, 1)", x.set(-1, 1), -2);
    }

    private static void tide() {
        StoneVotes x = new StoneVotes();
        due(8, "tide(0, -50)", x.tide(0, -50), 0);
        due(8, "tide(0, 50)", x.tide(0, 50), -50);
        due(8, "tide(24, 7)", x.tide(24, 7), 0);
        due(8, "tide(0, 51)", x.tide(0, 51), BAD_NUMBER);
        due(8, "tide(0, -51)", x.tide(0, -51), BAD_NUMBER);
        due(8, "tide(25, 0)", x.tide(25, 0), BAD_NUMBER);
        due(8, "tide(-1, 0)", x.tide(-1, 0), BAD_NUMBER);
        due(8, "tide(0, 0)", x.tide(0, 0), 50);
        due(8, "tip(24)", x.tip(24), 7);
    }

    private static void carry() {
        StoneVotes x = new StoneVotes();
        due(9, "carry(-1, 0, 1)", x.carry(-1, 0, 1), -2);
        due(9, "carry(8, 0, 1)", x.carry(8, 0, 1), -2);
        due(9, "carry(0, -1, 1)", x.carry(0, -1, 1), -2);
        due(9, "carry(0, 9, 1)", x.carry(0, 9, 1), -2);
        due(9, "carry(0, 0, 0)", x.carry(0, 0, 0), -2);
        due(9, "carry(0, 0, 6)", x.carry(0, 0, 6), -2);
        due(9, "count(4)", x.count(4), 0);
        for (int i = 1; i <= 30; i++) {
            due(9, "carry(7, 8, 5)", x.carry(7, 8, 5), i);
        }
        due(9, "carry(7, 8, 5) at 30", x.carry(7, 8, 5), -4);
        due(9, "carry(8, 8, 5) at 30", x.carry(8, 8, 5), -2);
        due(9, "count(4)", x.count(4), 30);
    }

    private static void layAll(StoneVotes x, int s, int form, int... items) {
        x.sheet(s, form, items.length);
        for (int i = 0; i < items.length; i++) {
            x.lay(s, form, i, items[i]);
        }
    }

    private static void read() {
        StoneVotes x = island("5y9n", "50409030");
        layAll(x, 0, 0, 0, 0, 5, 1, 1, 4, 0, 1);
        due(10, "read(0)", x.read(0), 2);
        due(10, "count(4)", x.count(4), 2);
        due(10, "tip(12)", x.tip(12), 25 - 16);
        layAll(x, 1, 2, 1, 2, 5, 0, 9, 1, 1, 3, 1);
        due(10, "read(1)", x.read(1), 1);
        due(10, "tip(12)", x.tip(12), 25 - 16 - 45);
        due(10, "laid(2)", x.laid(2), 2);
        x.sheet(2, 1, 2);
        due(10, "read(2), two items", x.read(2), 0);
        x.sheet(2, 1, 0);
        due(10, "read(2), no items", x.read(2), 0);
        layAll(x, 2, 0, 0, 0, 0);
        due(10, "read(2), ARM 0", x.read(2), 0);
        layAll(x, 2, 0, -1, 0, 1);
        due(10, "read(2), PERSON -1", x.read(2), 0);
        due(10, "read(3)", x.read(3), -11);
        due(10, "count(8)", x.count(8), 1);
        due(10, "read(4)", x.read(4), -2);
        due(10, "read(-1)", x.read(-1), -2);
        for (int i = 3; i < 29; i++) {
            x.carry(0, 0, 1);
        }
        due(10, "read(0), room for one", x.read(0), 1);
        due(10, "read(0), no room", x.read(0), 0);
        due(10, "count(4)", x.count(4), 30);
        StoneVotes y = new StoneVotes();
        y.sheet(0, 2, 60);
        for (int i = 2; i < 60; i += 3) {
            y.lay(0, 2, i, 5);
        }
        due(10, "read(0), 60 items", y.read(0), 20);
        due(10, "read(0), half of it", y.read(0), 10);
    }

    private static void undo() {
        StoneVotes x = island("5y9n", "5040");
        due(11, "undo()", x.undo(), -3);
        x.carry(0, 0, 5);
        x.carry(1, 1, 5);
        due(11, "tip(12)", x.tip(12), 5);
        due(11, "undo()", x.undo(), 1);
        due(11, "tip(12)", x.tip(12), 25);
        due(11, "stone(1, 2)", x.stone(1, 2), -1);
        due(11, "undo()", x.undo(), 0);
        due(11, "tip(12)", x.tip(12), 0);
        due(11, "undo()", x.undo(), -3);
    }

    private static void judged() {
        StoneVotes x = island("5y9n", "506040");
        x.carry(0, 0, 5);
        due(12, "judged()", x.judged(), -1);
        x.carry(1, 1, 5);
        x.carry(1, 0, 5);
        x.carry(1, 8, 5);
        due(12, "judged()", x.judged(), 2);
        x.undo();
        x.undo();
        due(12, "judged(), those undone", x.judged(), -1);
        x.carry(1, 0, 5);
        due(12, "judged()", x.judged(), 2);
        x.wipe(0);
        due(12, "judged() with nobody", x.judged(), 0);
    }

    private static void laid() {
        StoneVotes x = island("5y9n", "5364405210");
        x.carry(0, 0, 1);
        due(13, "laid(0)", x.laid(0), 4);
        x.carry(0, 1, 1);
        due(13, "laid(1), 6 for 5", x.laid(1), -1);
        x.carry(1, 0, 1);
        due(13, "laid(2), carried", x.laid(2), -1);
        x.carry(1, 1, 1);
        due(13, "laid(3), told against the law before", x.laid(3), 5);
        x.carry(0, 2, 1);
        due(13, "laid(4), after 4", x.laid(4), 5);
        x.carry(2, 4, 1);
        due(13, "laid(5), no such person", x.laid(5), -1);
        x.carry(0, 5, 1);
        due(13, "laid(6), no such stone", x.laid(6), -1);
        x.set(0, 7);
        x.carry(0, 3, 1);
        due(13, "laid(7), too late", x.laid(7), -1);
        x.carry(0, 4, 1);
        due(13, "laid(8), after 5", x.laid(8), 6);
        x.set(0, 8);
        due(13, "laid(7), at the end", x.laid(7), 8);
        due(13, "laid(8), too late", x.laid(8), -1);
        x.set(0, 4);
        due(13, "laid(0), at the end", x.laid(0), 4);
        due(13, "laid(3), too late", x.laid(3), -1);
        due(13, "laid(9)", x.laid(9), -2);
        due(13, "laid(-1)", x.laid(-1), -2);
    }

    private static void tip() {
        StoneVotes x = island("5y9n", "5040639210");
        x.carry(0, 0, 5);
        x.carry(0, 1, 2);
        x.carry(1, 2, 3);
        due(14, "tip(0)", x.tip(0), 0);
        due(14, "tip(1)", x.tip(1), 25);
        due(14, "tip(2)", x.tip(2), 33);
        due(14, "tip(3)", x.tip(3), 33);
        due(14, "tip(4)", x.tip(4), 15);
        due(14, "tip(24)", x.tip(24), 15);
        x.tide(4, -20);
        x.tide(24, 50);
        due(14, "tip(4) and the tide", x.tip(4), -5);
        due(14, "tip(5), no tide", x.tip(5), 15);
        due(14, "tip(24) and the tide", x.tip(24), 65);
        x.carry(1, 3, 5);
        due(14, "tip(7)", x.tip(7), -30);
        due(14, "tip(25)", x.tip(25), BAD_NUMBER);
        due(14, "tip(-1)", x.tip(-1), BAD_NUMBER);
    }

    private static void shelf() {
        StoneVotes x = island("9y9n9y", "5040302360");
        x.carry(0, 0, 5);
        x.carry(2, 1, 5);
        x.carry(1, 2, 5);
        x.carry(0, 3, 1);
        due(15, "shelf(0, 5, 0)", x.shelf(0, 5, 0), 0);
        due(15, "shelf(0, 5, 1)", x.shelf(0, 5, 1), 9);
        due(15, "shelf(1, 5, 1)", x.shelf(1, 5, 1), 3);
        due(15, "shelf(0, 1, 4)", x.shelf(0, 1, 4), 0);
        due(15, "shelf(0, 1, 5)", x.shelf(0, 1, 5), 2);
        due(15, "shelf(0, 1, 24)", x.shelf(0, 1, 24), 2);
        x.set(1, 9);
        due(15, "shelf(0, 5, 24) at LOAD", x.shelf(0, 5, 24), 9);
        x.set(1, 8);
        due(15, "shelf(0, 5, 24) over LOAD", x.shelf(0, 5, 24), 0);
        due(15, "shelf(0, 1, 24)", x.shelf(0, 1, 24), 2);
        x.carry(1, 4, 5);
        due(15, "shelf(1, 5, 2) over LOAD", x.shelf(1, 5, 2), 0);
        due(15, "shelf(1, 5, 1) before", x.shelf(1, 5, 1), 3);
        due(15, "shelf(2, 1, 0)", x.shelf(2, 1, 0), -2);
        due(15, "shelf(-1, 1, 0)", x.shelf(-1, 1, 0), -2);
        due(15, "shelf(0, 0, 0)", x.shelf(0, 0, 0), -2);
        due(15, "shelf(0, 6, 0)", x.shelf(0, 6, 0), -2);
        due(15, "shelf(0, 1, 25)", x.shelf(0, 1, 25), -2);
        due(15, "shelf(0, 1, -1)", x.shelf(0, 1, -1), -2);
    }

    private static void slid() {
        // The stone told last is laid first: what slides goes by the hours, not by the carries.
        StoneVotes x = island("9y9y9y", "5240306070");
        x.set(1, 8);
        x.carry(0, 0, 2);
        x.carry(1, 1, 2);
        x.carry(2, 2, 2);
        due(16, "slid(0)", x.slid(0), 0);
        due(16, "slid(1)", x.slid(1), 0);
        due(16, "slid(2)", x.slid(2), 0);
        due(16, "slid(3)", x.slid(3), 3);
        due(16, "shelf(0, 2, 3)", x.shelf(0, 2, 3), 0);
        x.carry(1, 3, 2);
        due(16, "slid(2), two slide at 2", x.slid(2), 3);
        due(16, "slid(3), the next one lies", x.slid(3), 3);
        due(16, "shelf(0, 2, 3)", x.shelf(0, 2, 3), 5);
        x.set(1, 4);
        due(16, "slid(1), of like hours by carries", x.slid(1), 2);
        due(16, "slid(2), one heavier than LOAD", x.slid(2), 3);
        due(16, "slid(24)", x.slid(24), 4);
        due(16, "slid(25)", x.slid(25), -2);
        due(16, "slid(-1)", x.slid(-1), -2);
        StoneVotes y = island("9y9y9y", "306040");
        y.set(1, 8);
        y.carry(0, 0, 1);
        y.carry(1, 1, 1);
        y.carry(2, 2, 1);
        due(16, "slid(1), the first two", y.slid(1), 2);
        due(16, "shelf(0, 1, 1), the third", y.shelf(0, 1, 1), 4);
    }

    private static void when() {
        StoneVotes x = island("5y9n", "5040");
        due(17, "when()", x.when(), -1);
        x.carry(0, 1, 1);
        due(17, "when()", x.when(), 1);
        x.tide(1, -4);
        due(17, "when(), 0 at 1", x.when(), 2);
        x.tide(0, 1);
        due(17, "when(), the tide at 0", x.when(), 0);
        StoneVotes y = island("", "");
        y.tide(13, 50);
        due(17, "when(), behind the day", y.when(), -1);
        y.set(0, 13);
        due(17, "when(), at the end", y.when(), 13);
    }

    private static void result() {
        StoneVotes x = island("5y9n9n", "504020103080");
        x.carry(0, 0, 1);
        x.carry(0, 1, 1);
        x.carry(1, 2, 5);
        x.carry(2, 3, 5);
        x.tide(12, 20);
        due(18, "result(0)", x.result(0), 9 - 15 + 20);
        due(18, "result(1)", x.result(1), 9 - 3);
        due(18, "result(2)", x.result(2), 1 - 2);
        x.set(1, 8);
        due(18, "result(0), slid", x.result(0), -15 + 20);
        due(18, "result(1), slid", x.result(1), -3);
        due(18, "result(2), slid", x.result(2), -2);
        x.set(0, 1);
        due(18, "result(0), a short day", x.result(0), 5 - 15);
        due(18, "result(3)", x.result(3), BAD_NUMBER);
        due(18, "result(-1)", x.result(-1), BAD_NUMBER);
        StoneVotes y = island("5y1n", "5020");
        y.carry(0, 0, 1);
        due(18, "result(2), one stone", y.result(2), 1);
        y.carry(0, 1, 1);
        due(18, "result(2), two of one", y.result(2), 1);
    }

    private static void without() {
        StoneVotes x = island("5y9n", "5040");
        x.carry(0, 0, 5);
        x.carry(1, 0, 5);
        x.carry(1, 1, 5);
        due(19, "without(0), the next one has it", x.without(0), -25 - 20);
        due(19, "without(1), against the law", x.without(1), 25 - 20);
        due(19, "without(2)", x.without(2), 25);
        due(19, "tip(12) stands", x.tip(12), 5);
        due(19, "laid(1) stands", x.laid(1), -1);
        due(19, "count(4) stands", x.count(4), 3);
        x.tide(12, 3);
        due(19, "without(2) and the tide", x.without(2), 28);
        due(19, "without(3)", x.without(3), BAD_NUMBER);
        due(19, "without(-1)", x.without(-1), BAD_NUMBER);
        StoneVotes y = island("5y", "5914");
        y.carry(0, 0, 5);
        y.carry(0, 1, 5);
        due(19, "laid(1)", y.laid(1), -1);
        due(19, "without(0), time for the next", y.without(0), 5);
    }

    private static void settled() {
        StoneVotes x = island("5y9n", "535080");
        due(20, "settled()", x.settled(), -1);
        x.carry(0, 0, 1);
        due(20, "settled()", x.settled(), 4);
        x.carry(1, 1, 2);
        due(20, "settled(), below 0 throughout", x.settled(), 1);
        x.tide(0, -1);
        due(20, "settled(), from 0 on", x.settled(), 0);
        x.tide(6, 50);
        due(20, "settled(), behind a tide", x.settled(), 7);
        x.tide(8, 5);
        due(20, "settled(), behind a 0", x.settled(), 9);
        x.tide(12, 5);
        due(20, "settled(), 0 at the end", x.settled(), -1);
        x.tide(12, 6);
        due(20, "settled(), at the end alone", x.settled(), 12);
        StoneVotes y = new StoneVotes();
        y.tide(12, 1);
        y.tide(13, -1);
        y.tide(10, 1);
        due(20, "settled(), whatever comes behind the day", y.settled(), 12);
        y.tide(11, 1);
        due(20, "settled(), three hours", y.settled(), 10);
        y.tide(11, -1);
        due(20, "settled(), the hour before the end", y.settled(), 12);
    }

    private static void doubles() {
        StoneVotes x = new StoneVotes();
        due(21, "doubles()", x.doubles(), 0);
        x.carry(0, 0, 1);
        x.carry(0, 8, 1);
        x.carry(0, 3, 1);
        due(21, "doubles()", x.doubles(), 0);
        x.carry(7, 8, 5);
        due(21, "doubles()", x.doubles(), 256);
        x.carry(1, 8, 2);
        x.carry(1, 0, 2);
        due(21, "doubles()", x.doubles(), 257);
        x.undo();
        due(21, "doubles()", x.doubles(), 256);
    }

    private static void fewest() {
        StoneVotes x = island("6y9n4y", "90702050403060");
        x.tide(12, -39);
        due(22, "fewest(0), 2 with 8 or more", x.fewest(0), 2);
        due(22, "fewest(1), least weight, least bits", x.fewest(1), 1 << 3 | 1 << 5);
        x.tide(12, -40);
        due(22, "fewest(1), 9 of them: 5 and 4", x.fewest(1), 1 << 3 | 1 << 4);
        x.tide(12, -20);
        due(22, "fewest(0)", x.fewest(0), 1);
        due(22, "fewest(1), 5 will do", x.fewest(1), 1 << 3);
        x.tide(12, 0);
        due(22, "fewest(1), at 0", x.fewest(1), 1 << 2);
        x.tide(12, 1);
        due(22, "fewest(0), above 0", x.fewest(0), 0);
        due(22, "fewest(1), above 0", x.fewest(1), 0);
        x.tide(12, -50);
        x.carry(1, 0, 5);
        due(22, "fewest(0), 20 are not above 95", x.fewest(0), 5);
        x.tide(12, -49);
        x.carry(0, 6, 5);
        x.carry(1, 3, 3);
        due(22, "fewest(0), none", x.fewest(0), -1);
        due(22, "fewest(1), none", x.fewest(1), -1);
        due(22, "fewest(2)", x.fewest(2), -2);
        due(22, "fewest(-1)", x.fewest(-1), -2);
        StoneVotes y = island("9n", "10");
        due(22, "fewest(0), nobody of SIDE 0", y.fewest(0), -1);
        StoneVotes z = island("3y", "302030");
        z.tide(12, -10);
        due(22, "fewest(1), of like ones the least bits", z.fewest(1), 1);
        z.set(1, 1);
        due(22, "fewest(1), no shelf slides", z.fewest(1), 1);
        z.set(0, 11);
        due(22, "fewest(1), at the end of the day", z.fewest(1), 2);
    }

    private static void most() {
        StoneVotes x = island("5y9n3y", "5093334920");
        x.set(0, 4);
        due(23, "most(0): 5 and 2, and 3", x.most(0), 10);
        due(23, "most(1): 9", x.most(1), 9);
        x.set(0, 5);
        due(23, "most(0): 5 and 3, and 2", x.most(0), 10);
        due(23, "most(1): 9 and 5", x.most(1), 14);
        x.set(0, 24);
        due(23, "most(0): 5, 3, 4 and 2", x.most(0), 14);
        due(23, "most(1): all", x.most(1), 23);
        x.carry(1, 1, 5);
        x.carry(0, 0, 5);
        due(23, "most(1), whatever was carried", x.most(1), 23);
        x.set(0, 1);
        due(23, "most(0): 5 and 2", x.most(0), 7);
        due(23, "most(2)", x.most(2), -2);
        due(23, "most(-1)", x.most(-1), -2);
        // 3 and 3 hours for each of two: what is taken first must not fill up a day badly.
        StoneVotes y = island("9y9y", "93939292");
        y.set(0, 7);
        due(23, "most(0), 4 and 3 twice", y.most(0), 36);
        y.set(0, 6);
        due(23, "most(0), 4, 3 and 3", y.most(0), 27);
        due(23, "most(1), nobody", y.most(1), 0);
    }

    private static void hold() {
        StoneVotes x = island("3y9n9y5y1n", "90503020");
        x.set(0, 2);
        due(24, "hold(0), who lifts 9", x.hold(0), 2);
        due(24, "hold(1), who lifts more than 1", x.hold(1), 1);
        x.wipe(1);
        due(24, "hold(0), all alike", x.hold(0), 0);
        due(24, "hold(1), all alike", x.hold(1), 1);
        x.wipe(0);
        typeAll(x, 0, "3n");
        due(24, "hold(0), nobody", x.hold(0), -1);
        due(24, "hold(1)", x.hold(1), 0);
        due(24, "hold(2)", x.hold(2), -2);
        due(24, "hold(-1)", x.hold(-1), -2);
    }

    private static void game() {
        StoneVotes x = island("6y6n", "40605030");
        x.tide(12, 7);
        due(25, "game(1, 0)", x.game(1, 0), 37);
        due(25, "game(1, 1)", x.game(1, 1), 1);
        due(25, "game(2, 0)", x.game(2, 0), 7 + 5 * (6 - 5));
        due(25, "game(3, 0)", x.game(3, 0), 7 + 5 * (6 - 5 + 4));
        due(25, "game(4, 0)", x.game(4, 0), 7 + 5 * (6 - 5 + 4 - 3));
        due(25, "game(4, 1)", x.game(4, 1), 1);
        x.carry(1, 1, 1);
        due(25, "game(1, 0), 6 carried", x.game(1, 0), 7 - 6 + 25);
        due(25, "game(1, 1), 6 carried", x.game(1, 1), 2);
        x.set(1, 1);
        due(25, "game(1, 0), LOAD aside", x.game(1, 0), 7 + 25);
        due(25, "game(0, 0)", x.game(0, 0), BAD_NUMBER);
        due(25, "game(5, 0)", x.game(5, 0), BAD_NUMBER);
        due(25, "game(1, 2)", x.game(1, 2), BAD_NUMBER);
        due(25, "game(1, -1)", x.game(1, -1), BAD_NUMBER);
        // To keep 4 from the other side, who cannot lift 6, is worth more than to lay 6 at once.
        StoneVotes y = island("6y4n", "106040");
        due(25, "game(2, 0), 4 first", y.game(2, 0), 5 * (4 - 1));
        due(25, "game(3, 0), 4 first", y.game(3, 0), 5 * (4 - 1 + 6));
        due(25, "game(3, 1), 4 first", y.game(3, 1), 2);
        due(25, "game(2, 1), 4 first", y.game(2, 1), 2);
        due(25, "game(1, 1), 6 first", y.game(1, 1), 1);
        due(35, "digest(), game(2, 1)", y.digest(), digestOf(y));
        StoneVotes z = island("4y4n", "404030");
        due(25, "game(1, 1), of like ones the least", z.game(1, 1), 0);
    }

    private static void gameWithTurnsLeftOut() {
        StoneVotes x = island("2y9n", "5030");
        due(25, "game(1, 0), none to lay", x.game(1, 0), 0);
        due(25, "game(1, 1), none to lay", x.game(1, 1), -1);
        due(25, "game(2, 0), the other one lays", x.game(2, 0), -25);
        due(25, "game(2, 1), the other one lays", x.game(2, 1), -1);
        due(25, "game(4, 0), the other one lays twice", x.game(4, 0), -40);
        StoneVotes y = island("9y2n", "503010");
        due(25, "game(4, 0), has to lay", y.game(4, 0), 5 * (5 - 1 + 3));
        StoneVotes z = island("9y", "1050");
        due(25, "game(2, 0), the other one has none", z.game(2, 0), 25);
        due(25, "game(3, 0), the other one has none", z.game(3, 0), 30);
        due(25, "game(3, 1), of like ones the least", z.game(3, 1), 0);
        StoneVotes e = island("", "");
        due(25, "game(4, 0), nothing", e.game(4, 0), 0);
        due(25, "game(4, 1), nothing", e.game(4, 1), -1);
    }

    /** As many as can be of all: 8 of one side, 9 stones. */
    private static void fullIsland() {
        StoneVotes x = island("9y9y9y9y9y9y9y9y", "102030405060708090");
        due(23, "most(0), all", x.most(0), 45);
        due(23, "most(1), nobody", x.most(1), 0);
        due(24, "hold(0)", x.hold(0), 0);
        due(24, "hold(1)", x.hold(1), -1);
        x.set(0, 1);
        due(23, "most(0), one each", x.most(0), 44);
        due(25, "game(4, 0)", x.game(4, 0), 5 * (9 + 8));
        due(25, "game(4, 1)", x.game(4, 1), 7);
        x.tide(1, -50);
        due(22, "fewest(1), 5 and 6", x.fewest(1), 1 << 4 | 1 << 5);
        for (int s = 0; s < 9; s++) {
            x.carry(s % 8, s, 5);
        }
        due(18, "result(1)", x.result(1), 36);
        due(18, "result(2)", x.result(2), 8);
        due(34, "count(6)", x.count(6), 8);
        x.set(0, 2);
        due(18, "result(0)", x.result(0), 5 * 45);
        due(34, "count(6)", x.count(6), 9);
        x.set(1, 44);
        due(16, "slid(2), all", x.slid(2), 9);
        due(35, "digest()", x.digest(), digestOf(x));
    }

    private static void arm() {
        StoneVotes x = new StoneVotes();
        due(26, "arm(7, 5)", x.arm(7, 5), 1);
        due(26, "arm(7, 0)", x.arm(7, 0), 5);
        due(26, "arm(7, 6)", x.arm(7, 6), -2);
        due(26, "arm(7, -1)", x.arm(7, -1), -2);
        due(26, "arm(8, 1)", x.arm(8, 1), -2);
        due(26, "arm(-1, 1)", x.arm(-1, 1), -2);
        due(26, "arm(7, 1)", x.arm(7, 1), 0);
        due(26, "arm(0, 1)", x.arm(0, 1), 1);
    }

    private static void secret() {
        StoneVotes x = island("5y3n2y", "");
        due(27, "secret(10, 0)", x.secret(10, 0), 1);
        due(27, "secret(10, 1)", x.secret(10, 1), 7);
        due(27, "secret(10, 2)", x.secret(10, 2), 0);
        due(27, "secret(-10, 2)", x.secret(-10, 2), 7);
        due(27, "secret(5, 0): 5, 3 and 2", x.secret(5, 0), 2);
        due(27, "secret(5, 1)", x.secret(5, 1), 0);
        due(27, "secret(0, 0): none, 5 for 3 and 2, and back", x.secret(0, 0), 3);
        due(27, "secret(6, 0): 5 and 3 less 2", x.secret(6, 0), 1);
        due(27, "secret(6, 1)", x.secret(6, 1), 3);
        due(27, "secret(6, 2)", x.secret(6, 2), 4);
        due(27, "secret(9, 0)", x.secret(9, 0), 0);
        due(27, "secret(9, 1), no ways", x.secret(9, 1), 0);
        due(27, "secret(9, 2), no ways", x.secret(9, 2), 0);
        x.tide(12, 9);
        due(27, "secret(10, 0), no tide", x.secret(10, 0), 1);
        x.arm(1, 0);
        due(27, "secret(7, 0), an arm of 0", x.secret(7, 0), 3);
        due(27, "secret(7, 1), an arm of 0", x.secret(7, 1), 5);
        x.arm(0, 5);
        due(27, "secret(27, 1), an arm of 5", x.secret(27, 1), 5);
        due(27, "secret(999, 0)", x.secret(999, 0), 0);
        due(27, "secret(-999, 0)", x.secret(-999, 0), 0);
        due(27, "secret(1000, 0)", x.secret(1000, 0), -2);
        due(27, "secret(-1000, 0)", x.secret(-1000, 0), -2);
        due(27, "secret(0, 3)", x.secret(0, 3), -2);
        due(27, "secret(0, -1)", x.secret(0, -1), -2);
        StoneVotes y = island("9y9n9y9n9y9n9y9n", "");
        for (int p = 0; p < 8; p++) {
            y.arm(p, 5);
        }
        due(27, "secret(360, 1)", y.secret(360, 1), 255);
        due(27, "secret(-360, 2)", y.secret(-360, 2), 255);
        due(27, "secret(315, 0)", y.secret(315, 0), 8);
        StoneVotes e = new StoneVotes();
        due(27, "secret(0, 0), nobody", e.secret(0, 0), 1);
        due(27, "secret(0, 1), nobody", e.secret(0, 1), 0);
    }

    private static void sheet() {
        StoneVotes x = new StoneVotes();
        due(28, "sheet(0, 0, 60)", x.sheet(0, 0, 60), 60);
        due(28, "sheet(3, 2, 0)", x.sheet(3, 2, 0), 0);
        due(28, "sheet(0, 0, 61)", x.sheet(0, 0, 61), -2);
        due(28, "sheet(4, 0, -1)", x.sheet(4, 0, -1), -2);
        due(28, "sheet(-1, 0, 1)", x.sheet(-1, 0, 1), -2);
        due(28, "sheet(0, 3, -1)", x.sheet(0, 3, -1), -2);
        due(28, "sheet(0, -1, 1)", x.sheet(0, -1, 1), -2);
        due(28, "count(8), BAD is no finding", x.count(8), 0);
        x.lay(0, 0, 59, 7);
        due(28, "sheet(0, 1, -1)", x.sheet(0, 1, -1), -15);
        due(28, "count(8)", x.count(8), 5);
        due(28, "get(0, 0, 59), as it was", x.get(0, 0, 59), 7);
        due(28, "sheet(0, 1, 60)", x.sheet(0, 1, 60), 60);
        due(28, "get(0, 1, 59), 0 at first", x.get(0, 1, 59), 0);
    }

    private static void lose() {
        StoneVotes x = new StoneVotes();
        due(29, "lose(3)", x.lose(3), -11);
        x.sheet(3, 1, 9);
        x.sheet(0, 0, 0);
        due(29, "lose(3)", x.lose(3), 9);
        due(29, "lose(3)", x.lose(3), -11);
        due(29, "lose(0)", x.lose(0), 0);
        due(29, "lose(0)", x.lose(0), -11);
        due(29, "count(8)", x.count(8), 1);
        due(29, "lose(4)", x.lose(4), -2);
        due(29, "lose(-1)", x.lose(-1), -2);
    }

    private static void lay() {
        StoneVotes x = new StoneVotes();
        due(30, "lay(0, 0, 0, 1)", x.lay(0, 0, 0, 1), -11);
        due(30, "lay(0, 3, 0, 1)", x.lay(0, 3, 0, 1), -2);
        due(30, "lay(0, -1, 0, 1)", x.lay(0, -1, 0, 1), -2);
        due(30, "lay(4, 0, 0, 1)", x.lay(4, 0, 0, 1), -2);
        due(30, "lay(-1, 0, 0, 1)", x.lay(-1, 0, 0, 1), -2);
        for (int form = 0; form <= 2; form++) {
            x.sheet(form, form, 3);
            due(30, "lay(.., 2, 98432)", x.lay(form, form, 2, 98432), 1);
            due(30, "lay(.., 1, -1)", x.lay(form, form, 1, -1), 1);
            due(30, "lay(.., 3, 1)", x.lay(form, form, 3, 1), -12);
            due(30, "lay(.., -1, 1)", x.lay(form, form, -1, 1), -12);
            due(30, "count(8)", x.count(8), 2);
            due(30, "lay of another form", x.lay(form, (form + 1) % 3, 3, 1), -13);
            due(30, "count(8)", x.count(8), 3);
            due(30, "get(.., 0)", x.get(form, form, 0), 0);
            due(30, "get(.., 1)", x.get(form, form, 1), -1);
        }
        due(30, "get(0, 0, 2), 8 bits", x.get(0, 0, 2), -128);
        due(30, "get(1, 1, 2), 16 bits", x.get(1, 1, 2), -32640);
        due(30, "get(2, 2, 2), 32 bits", x.get(2, 2, 2), 98432);
        x.sheet(3, 2, 60);
        due(30, "lay(3, 2, 59, 5)", x.lay(3, 2, 59, 5), 1);
        due(30, "get(3, 2, 59)", x.get(3, 2, 59), 5);
    }

    private static void get() {
        StoneVotes x = new StoneVotes();
        due(31, "get(0, 0, 0)", x.get(0, 0, 0), LEAST_INT);
        due(31, "count(8)", x.count(8), 1);
        layAll(x, 0, 1, 300, -300);
        due(31, "get(0, 1, 0)", x.get(0, 1, 0), 300);
        due(31, "get(0, 1, 1)", x.get(0, 1, 1), -300);
        due(31, "get(0, 2, 9)", x.get(0, 2, 9), LEAST_INT);
        due(31, "count(8)", x.count(8), 3);
        due(31, "get(0, 1, 2)", x.get(0, 1, 2), LEAST_INT);
        due(31, "count(8)", x.count(8), 2);
        x.lose(1);
        due(31, "get(0, 1, -1)", x.get(0, 1, -1), LEAST_INT);
        due(31, "count(8)", x.count(8), 2);
        x.lose(1);
        due(31, "get(4, 1, 0)", x.get(4, 1, 0), LEAST_INT);
        due(31, "get(-1, 1, 0)", x.get(-1, 1, 0), LEAST_INT);
        due(31, "get(0, 3, 0)", x.get(0, 3, 0), LEAST_INT);
        due(31, "get(0, -1, 0)", x.get(0, -1, 0), LEAST_INT);
        due(31, "count(8), BAD is no finding", x.count(8), 1);
    }

    private static void dueItems(String call, StoneVotes x, int s, int form, int... want) {
        for (int i = 0; i < want.length; i++) {
            due(32, call + ": item " + i, x.get(s, form, i), want[i]);
        }
    }

    private static void copy() {
        StoneVotes x = new StoneVotes();
        layAll(x, 0, 0, 1, 2, 3, 4, 5);
        due(32, "copy(0, 0, 0, 1, 4)", x.copy(0, 0, 0, 1, 4), 1);
        dueItems("upwards", x, 0, 0, 1, 1, 2, 3, 4);
        due(32, "copy(0, 2, 0, 0, 3)", x.copy(0, 2, 0, 0, 3), 1);
        dueItems("downwards", x, 0, 0, 2, 3, 4, 3, 4);
        layAll(x, 1, 0, 9, 9, 9);
        due(32, "copy(0, 1, 1, 1, 2)", x.copy(0, 1, 1, 1, 2), 1);
        dueItems("to another", x, 1, 0, 9, 3, 4);
        due(32, "copy(0, 5, 1, 3, 0)", x.copy(0, 5, 1, 3, 0), 1);
        int max = Integer.MAX_VALUE;
        int[][] beyond = {
            {0, 6, 1, 0, 0}, {0, 0, 1, 4, 0}, {0, -1, 1, 0, 1}, {0, 0, 1, -1, 1}, {0, 0, 1, 0, -1},
            {0, 4, 1, 0, 2}, {0, 0, 1, 2, 2}, {0, 0, 1, 0, max}, {0, max, 1, 0, max}, {0, 1, 1, max, max},
            {0, LEAST_INT, 1, 0, 1}, {0, 1, 1, 0, LEAST_INT},
        };
        for (int[] b : beyond) {
            due(32, "copy(0, " + b[1] + ", 1, " + b[3] + ", " + b[4] + ")",
                x.copy(b[0], b[1], b[2], b[3], b[4]), -12);
        }
        due(32, "count(8)", x.count(8), 2);
        dueItems("nothing changed", x, 1, 0, 9, 3, 4);
        x.sheet(2, 1, 3);
        due(32, "copy(0, 9, 2, 0, 1)", x.copy(0, 9, 2, 0, 1), -14);
        due(32, "count(8)", x.count(8), 4);
        due(32, "copy(0, 0, 3, 0, 1)", x.copy(0, 0, 3, 0, 1), -11);
        due(32, "copy(3, 0, 2, 0, 1)", x.copy(3, 0, 2, 0, 1), -11);
        due(32, "copy(3, 0, 4, 0, 1)", x.copy(3, 0, 4, 0, 1), -2);
        due(32, "copy(4, 0, 0, 0, 1)", x.copy(4, 0, 0, 0, 1), -2);
        due(32, "copy(-1, 0, 0, 0, 1)", x.copy(-1, 0, 0, 0, 1), -2);
        due(32, "copy(0, 0, -1, 0, 1)", x.copy(0, 0, -1, 0, 1), -2);
        due(32, "count(8)", x.count(8), 1);
    }

    private static void write() {
        StoneVotes x = island("9y9n", "919290");
        x.set(0, 4);
        x.carry(0, 0, 5);
        x.carry(1, 2, 5);
        x.carry(1, 1, 5);
        x.tide(0, -7);
        x.tide(2, 47);
        layAll(x, 0, 2, 99, 99, 99, 99, 99, 99, 99);
        due(33, "write(0)", x.write(0), 5);
        int[] want = {-7, -45, 47, 0, -45, 99, 99};
        for (int i = 0; i < want.length; i++) {
            due(33, "item " + i, x.get(0, 2, i), want[i]);
        }
        x.sheet(1, 1, 2);
        due(33, "write(1)", x.write(1), 2);
        due(33, "get(1, 1, 1)", x.get(1, 1, 1), -45);
        x.sheet(1, 1, 0);
        due(33, "write(1), no items", x.write(1), 0);
        x.undo();
        x.undo();
        x.carry(0, 1, 5);
        x.carry(0, 2, 5);
        x.tide(4, 50);
        x.set(0, 6);
        x.sheet(2, 0, 7);
        due(33, "write(2)", x.write(2), 7);
        due(33, "get(2, 0, 5), 90 as a byte", x.get(2, 0, 5), 90);
        due(33, "get(2, 0, 6), 135 as a byte", x.get(2, 0, 6), 135 - 256);
        due(33, "write(3)", x.write(3), -11);
        due(33, "count(8)", x.count(8), 1);
        due(33, "write(4)", x.write(4), -2);
        due(33, "write(-1)", x.write(-1), -2);
    }

    private static void count() {
        StoneVotes x = island("5y9n3n", "50409030");
        x.carry(0, 0, 5);
        x.carry(0, 0, 5);
        x.carry(1, 1, 5);
        x.carry(1, 2, 4);
        x.carry(2, 3, 5);
        x.set(1, 8);
        x.set(0, 9);
        int[] want = {3, 4, 6, 8, 5, 1, 3, 9, 0};
        for (int what = 0; what < want.length; what++) {
            due(34, "count(" + what + ")", x.count(what), want[what]);
        }
        x.set(1, 6);
        due(34, "count(6), 4 and 3 slid, and 9", x.count(6), 1);
        x.read(0);
        due(34, "count(8)", x.count(8), 1);
        x.type(0, '1');
        x.type(1, '1');
        due(34, "count(0) with a fault", x.count(0), 0);
        due(34, "count(1) with a fault", x.count(1), 0);
        due(34, "count(2)", x.count(2), 7);
        due(34, "count(3)", x.count(3), 9);
        due(34, "count(5) with a fault", x.count(5), 5);
        due(34, "count(9)", x.count(9), -2);
        due(34, "count(-1)", x.count(-1), -2);
    }

    private static long digestOf(StoneVotes x) {
        int end = x.count(7);
        long[] parts = new long[200];
        int n = 0;
        for (int what = 0; what <= 7; what++) {
            parts[n++] = x.count(what);
        }
        parts[n++] = x.fault(0);
        parts[n++] = x.fault(1);
        parts[n++] = x.judged();
        for (int i = 0; i < 3 * x.count(0); i++) {
            parts[n++] = x.person(i / 3, i % 3);
        }
        for (int i = 0; i < 3 * x.count(1); i++) {
            parts[n++] = x.stone(i / 3, i % 3);
        }
        for (int c = 0; c < x.count(4); c++) {
            parts[n++] = x.laid(c);
            parts[n++] = x.without(c);
        }
        long[] last = {
            x.tip(3), x.tip(end), x.shelf(0, 5, end), x.shelf(1, 1, end), x.slid(end), x.when(),
            x.result(0), x.result(1), x.result(2), x.settled(), x.doubles(), x.fewest(0), x.fewest(1),
            x.most(0), x.most(1), x.hold(0), x.hold(1), x.game(2, 0), x.game(2, 1),
            x.secret(3, 0), x.secret(3, 1), x.secret(3, 2),
        };
        long h = 17;
        for (int i = 0; i < n; i++) {
            h = 31 * h + parts[i];
        }
        for (long part : last) {
            h = 31 * h + part;
        }
        return h;
    }

    private static void digest() {
        StoneVotes x = new StoneVotes();
        due(35, "digest(), a new one", x.digest(), digestOf(x));
        x = island("5y9n3n4y", "504090302513");
        x.carry(0, 0, 5);
        x.carry(0, 0, 5);
        x.carry(1, 1, 1);
        x.carry(1, 2, 1);
        x.carry(2, 3, 5);
        x.tide(12, -7);
        x.tide(3, 4);
        due(35, "digest()", x.digest(), digestOf(x));
        long before = x.digest();
        x.read(2);
        due(35, "digest(), a finding is not in it", x.digest(), before);
        x.set(1, 8);
        x.set(0, 3);
        due(35, "digest()", x.digest(), digestOf(x));
        x.type(0, '1');
        due(35, "digest() with a fault", x.digest(), digestOf(x));
        due(35, "digest() with a fault", x.fault(0), 9);
    }
}
