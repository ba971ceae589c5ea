import java.util.Random;

/** Random runs with fixed seeds: the class and the plain model must answer alike. */
public final class RandomRunsTest {
    private static final int RUNS = 400;
    private static final int CALLS = 400;
    private static int wrong = 0;

    private final Random random;
    private final int run;
    private final StoneVotes x = new StoneVotes();
    private final PlainModel model = new PlainModel();
    private final StringBuilder story = new StringBuilder();
    private int calls = 0;

    private RandomRunsTest(int run) {
        this.run = run;
        this.random = new Random(run);
    }

    public static void main(String[] args) {
        for (int run = 0; run < RUNS && wrong == 0; run++) {
            new RandomRunsTest(run).go();
        }
        System.out.println(wrong == 0 ? "RandomRunsTest: all answers are alike" : "RandomRunsTest: unlike answers");
        if (wrong != 0) {
            System.exit(1);
        }
    }

    /** Mostly from the range told, sometimes just outside it, rarely far away. */
    private int pick(int least, int greatest) {
        int kind = random.nextInt(60);
        if (kind == 0) {
            return least - 1;
        }
        if (kind == 1) {
            return greatest + 1;
        }
        if (kind == 2 && random.nextInt(4) == 0) {
            return random.nextBoolean() ? random.nextInt() : random.nextBoolean() ? Integer.MIN_VALUE : Integer.MAX_VALUE;
        }
        return least + random.nextInt(greatest - least + 1);
    }

    private void same(String call, long got, long want) {
        calls++;
        story.append(call).append(" = ").append(got).append('\n');
        if (got != want) {
            wrong++;
            System.out.println("run " + run + ":\n" + story + "due is " + want);
        }
    }

    private void type(int text, int b) {
        same("type(" + text + ", " + b + ")", x.type(text, b), model.type(text, b));
    }

    private void typePeople() {
        int n = random.nextInt(9);
        for (int p = 0; p < n; p++) {
            type(0, '1' + random.nextInt(9));
            type(0, random.nextBoolean() ? 'y' : 'n');
        }
    }

    private void typeStones() {
        int n = random.nextInt(4) == 0 ? random.nextInt(10) : 6 + random.nextInt(4);
        int far = 1 + random.nextInt(10);
        for (int s = 0; s < n; s++) {
            type(1, '1' + random.nextInt(9));
            type(1, '0' + random.nextInt(far));
        }
    }

    private void go() {
        typePeople();
        typeStones();
        while (calls < CALLS && wrong == 0) {
            int kind = random.nextInt(100);
            if (kind < 30) {
                change();
            } else if (kind < 65) {
                ask();
            } else if (kind < 75) {
                askWhatCouldBe();
            } else {
                sheets();
            }
        }
        same("digest()", x.digest(), model.digest());
    }

    private void rewrite() {
        int text = random.nextInt(2);
        int kind = random.nextInt(4);
        if (kind == 0) {
            type(pick(0, 1), pick(0, 255));
        } else {
            same("wipe(" + text + ")", x.wipe(text), model.wipe(text));
            if (text == 0) {
                typePeople();
            } else {
                typeStones();
            }
        }
    }

    private void change() {
        int a;
        int b;
        int c;
        switch (random.nextInt(12)) {
            case 0:
                if (random.nextInt(3) == 0) {
                    rewrite();
                }
                break;
            case 1:
                a = pick(0, 1);
                b = random.nextInt(3) > 0 ? pick(1, 24) : pick(1, 99);
                same("set(" + a + ", " + b + ")", x.set(a, b), model.set(a, b));
                break;
            case 2:
            case 3:
                a = random.nextInt(3) == 0 ? model.count(7) : pick(0, 24);
                b = pick(-50, 50);
                same("tide(" + a + ", " + b + ")", x.tide(a, b), model.tide(a, b));
                break;
            case 4:
            case 5:
                same("undo()", x.undo(), model.undo());
                break;
            case 6:
                a = pick(0, 7);
                b = pick(0, 5);
                same("arm(" + a + ", " + b + ")", x.arm(a, b), model.arm(a, b));
                break;
            case 7:
                readSheet();
                break;
            default:
                a = pick(0, Math.max(0, model.count(0) - 1));
                b = pick(0, Math.max(0, model.count(1) - 1));
                c = random.nextBoolean() ? 5 : pick(1, 5);
                same("carry(" + a + ", " + b + ", " + c + ")", x.carry(a, b, c), model.carry(a, b, c));
                break;
        }
    }

    private void readSheet() {
        int n = random.nextInt(12);
        int form = random.nextInt(3);
        same("sheet(0, " + form + ", " + n + ")", x.sheet(0, form, n), model.sheet(0, form, n));
        for (int i = 0; i < n; i++) {
            int v = i % 3 == 0 ? pick(0, 7) : i % 3 == 1 ? pick(0, 8) : pick(1, 5);
            same("lay(0, " + form + ", " + i + ", " + v + ")", x.lay(0, form, i, v), model.lay(0, form, i, v));
        }
        same("read(0)", x.read(0), model.read(0));
    }

    private void ask() {
        int a;
        int b;
        int c;
        switch (random.nextInt(15)) {
            case 0:
                a = pick(0, 1);
                same("fault(" + a + ")", x.fault(a), model.fault(a));
                break;
            case 1:
                a = pick(0, 7);
                b = pick(0, 2);
                same("person(" + a + ", " + b + ")", x.person(a, b), model.person(a, b));
                break;
            case 2:
                a = pick(0, 8);
                b = pick(0, 2);
                same("stone(" + a + ", " + b + ")", x.stone(a, b), model.stone(a, b));
                break;
            case 3:
                same("judged()", x.judged(), model.judged());
                break;
            case 4:
                a = pick(0, Math.max(0, model.count(4) - 1));
                same("laid(" + a + ")", x.laid(a), model.laid(a));
                break;
            case 5:
                a = pick(0, 24);
                same("tip(" + a + ")", x.tip(a), model.tip(a));
                break;
            case 6:
                a = pick(0, 1);
                b = pick(1, 5);
                c = pick(0, 24);
                same("shelf(" + a + ", " + b + ", " + c + ")", x.shelf(a, b, c), model.shelf(a, b, c));
                break;
            case 7:
                a = pick(0, 24);
                same("slid(" + a + ")", x.slid(a), model.slid(a));
                break;
            case 8:
                same("when()", x.when(), model.when());
                break;
            case 9:
                a = pick(0, 2);
                same("result(" + a + ")", x.result(a), model.result(a));
                break;
            case 10:
                a = pick(0, Math.max(0, model.count(4) - 1));
                same("without(" + a + ")", x.without(a), model.without(a));
                break;
            case 11:
                same("settled()", x.settled(), model.settled());
                break;
            case 12:
                same("doubles()", x.doubles(), model.doubles());
                break;
            default:
                a = pick(0, 8);
                same("count(" + a + ")", x.count(a), model.count(a));
                break;
        }
    }

    private void askWhatCouldBe() {
        int a;
        int b;
        switch (random.nextInt(6)) {
            case 0:
                a = pick(0, 1);
                same("fewest(" + a + ")", x.fewest(a), model.fewest(a));
                break;
            case 1:
                a = pick(0, 1);
                same("most(" + a + ")", x.most(a), model.most(a));
                break;
            case 2:
                a = pick(0, 1);
                same("hold(" + a + ")", x.hold(a), model.hold(a));
                break;
            case 3:
                a = pick(1, 4);
                b = pick(0, 1);
                same("game(" + a + ", " + b + ")", x.game(a, b), model.game(a, b));
                break;
            case 4:
                a = random.nextInt(4) == 0 ? pick(-999, 999) : pick(-30, 30);
                b = pick(0, 2);
                same("secret(" + a + ", " + b + ")", x.secret(a, b), model.secret(a, b));
                break;
            default:
                if (random.nextInt(4) == 0) {
                    same("digest()", x.digest(), model.digest());
                }
                break;
        }
    }

    private void sheets() {
        int s = pick(0, 3);
        int form = pick(0, 2);
        int i = pick(0, 12);
        switch (random.nextInt(8)) {
            case 0:
                int n = random.nextInt(4) == 0 ? pick(0, 60) : pick(0, 12);
                same("sheet(" + s + ", " + form + ", " + n + ")", x.sheet(s, form, n), model.sheet(s, form, n));
                break;
            case 1:
                same("lose(" + s + ")", x.lose(s), model.lose(s));
                break;
            case 2:
                int v = random.nextBoolean() ? random.nextInt() : pick(-300, 300);
                same("lay(" + s + ", " + form + ", " + i + ", " + v + ")", x.lay(s, form, i, v), model.lay(s, form, i, v));
                break;
            case 3:
            case 4:
                same("get(" + s + ", " + form + ", " + i + ")", x.get(s, form, i), model.get(s, form, i));
                break;
            case 5:
                int t = pick(0, 3);
                int j = pick(0, 8);
                int many = pick(0, 6);
                same("copy(" + s + ", " + i + ", " + t + ", " + j + ", " + many + ")",
                    x.copy(s, i, t, j, many), model.copy(s, i, t, j, many));
                break;
            case 6:
                same("write(" + s + ")", x.write(s), model.write(s));
                break;
            default:
                same("read(" + s + ")", x.read(s), model.read(s));
                break;
        }
    }
}
