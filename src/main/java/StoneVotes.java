import java.util.Arrays;

/** An island that votes with stones carried to a hill, weighed by how far it tips. */
public final class StoneVotes {
    public static final int NONE = -1, BAD = -2, NOT = -3, FULL = -4;

    private static final int MOST_PEOPLE = 8, MOST_STONES = 9, MOST_CARRIES = 30;
    private static final int MOST_HOURS = 24, MOST_LOAD = 99, MOST_TIDE = 50;
    private static final int SIDES = 2, SHELVES = 5, FARTHEST = 5;
    private static final int MOST_SHEETS = 4, MOST_ITEMS = 60, FORMS = 3;
    private static final int MOST_TURNS = 4, MOST_SECRET = 999;
    private static final int NULL = 1, INDEX = 2, CAST = 3, STORE = 4, SIZE = 5;

    // Answers that may be any number have their own BAD, and items, which may be any int, the least int.
    private static final int BAD_NUMBER = -10002;
    private static final int NO_ITEM = -2147483648;

    private final Island island = new Island();
    private final Carries carries = new Carries();
    private final Heap heap = new Heap(island, carries);
    // WITHOUT judges anew: it has a heap of its own, so that the one that stands is left alone.
    private final Heap otherHeap = new Heap(island, carries);
    private final Porters porters = new Porters(island);
    private final Ballot ballot = new Ballot(island);
    private final Sheet[] sheets = new Sheet[MOST_SHEETS];
    private int finding = 0;

    public StoneVotes() {
        for (int s = 0; s < MOST_SHEETS; s++) {
            sheets[s] = new Sheet();
        }
    }

    // ---- people, stones

    public int type(int text, int b) {
        if (!within(text, 0, 1) || !within(b, 0, 255)) {
            return BAD;
        }
        Text t = island.text(text);
        if (t.isFull()) {
            return FULL;
        }
        t.append(b);
        heap.judgeAll();
        return t.length;
    }

    public int wipe(int text) {
        if (!within(text, 0, 1)) {
            return BAD;
        }
        Text t = island.text(text);
        int had = t.length;
        t.clear();
        heap.judgeAll();
        return had;
    }

    public int fault(int text) {
        return within(text, 0, 1) ? island.text(text).flaw : BAD;
    }

    public int person(int person, int what) {
        if (!within(person, 0, island.people.size - 1) || !within(what, 0, 2)) {
            return BAD;
        }
        if (what == 0) {
            return island.strength(person);
        }
        return what == 1 ? island.sideOf(person) : heap.busyUntil[person];
    }

    public int stone(int stone, int what) {
        if (!within(stone, 0, island.stones.size - 1) || !within(what, 0, 2)) {
            return BAD;
        }
        if (what == 0) {
            return island.weight(stone);
        }
        return what == 1 ? island.way(stone) : heap.carrier[stone];
    }

    public int set(int what, int v) {
        if (!within(what, 0, 1) || !within(v, 1, what == 0 ? MOST_HOURS : MOST_LOAD)) {
            return BAD;
        }
        int was = what == 0 ? island.hours : island.load;
        if (what == 0) {
            island.hours = v;
            heap.judgeAll();
        } else {
            island.load = v;
        }
        return was;
    }

    public int tide(int hour, int v) {
        if (!within(hour, 0, MOST_HOURS) || !within(v, -MOST_TIDE, MOST_TIDE)) {
            return BAD_NUMBER;
        }
        int was = island.tides[hour];
        island.tides[hour] = v;
        return was;
    }

    // ---- carries

    public int carry(int person, int stone, int arm) {
        if (!Carries.canBeTold(person, stone, arm)) {
            return BAD;
        }
        if (carries.isFull()) {
            return FULL;
        }
        carries.append(person, stone, arm);
        heap.judgeAll();
        return carries.size;
    }

    public int read(int s) {
        int refusal = refusalOf(s);
        if (refusal != 0) {
            return refusal;
        }
        Sheet sheet = sheets[s];
        int before = carries.size;
        for (int i = 0; i + 2 < sheet.size; i += 3) {
            int person = sheet.items[i];
            int stone = sheet.items[i + 1];
            int arm = sheet.items[i + 2];
            if (carries.isFull() || !Carries.canBeTold(person, stone, arm)) {
                break;
            }
            carries.append(person, stone, arm);
        }
        heap.judgeAll();
        return carries.size - before;
    }

    public int undo() {
        if (carries.size == 0) {
            return NOT;
        }
        carries.size--;
        heap.judgeAll();
        return carries.size;
    }

    public int judged() {
        for (int c = 0; c < carries.size; c++) {
            if (heap.laidAt[c] == NONE) {
                return c;
            }
        }
        return NONE;
    }

    public int laid(int carry) {
        return within(carry, 0, carries.size - 1) ? heap.laidAt[carry] : BAD;
    }

    // ---- the heap

    public int tip(int hour) {
        return within(hour, 0, MOST_HOURS) ? heap.tipAt(hour) : BAD_NUMBER;
    }

    public int shelf(int side, int arm, int hour) {
        if (!within(side, 0, 1) || !within(arm, 1, SHELVES) || !within(hour, 0, MOST_HOURS)) {
            return BAD;
        }
        heap.pileUp(hour);
        return heap.onShelf[shelfNumber(side, arm)];
    }

    public int slid(int hour) {
        if (!within(hour, 0, MOST_HOURS)) {
            return BAD;
        }
        heap.pileUp(hour);
        return heap.slidStones;
    }

    public int when() {
        for (int hour = 0; hour <= island.hours; hour++) {
            if (heap.tipAt(hour) > 0) {
                return hour;
            }
        }
        return NONE;
    }

    public int result(int rule) {
        if (!within(rule, 0, 2)) {
            return BAD_NUMBER;
        }
        int tip = heap.tipAt(island.hours);
        if (rule == 0) {
            return tip;
        }
        return rule == 1 ? heap.weightLead() : heap.votersLead();
    }

    public int without(int carry) {
        if (!within(carry, 0, carries.size - 1)) {
            return BAD_NUMBER;
        }
        otherHeap.judgeWithout(carry);
        return otherHeap.tipAt(island.hours);
    }

    public int settled() {
        int sign = Integer.compare(heap.tipAt(island.hours), 0);
        if (sign == 0) {
            return NONE;
        }
        int first = island.hours;
        for (int hour = island.hours - 1; hour >= 0; hour--) {
            if (Integer.compare(heap.tipAt(hour), 0) != sign) {
                break;
            }
            first = hour;
        }
        return first;
    }

    public int doubles() {
        int once = 0;
        int more = 0;
        for (int c = 0; c < carries.size; c++) {
            int bit = 1 << carries.stone[c];
            more |= once & bit;
            once |= bit;
        }
        return more;
    }

    // ---- what could be

    public int fewest(int what) {
        if (!within(what, 0, 1)) {
            return BAD;
        }
        int bits = fewestBits();
        if (bits == NONE) {
            return NONE;
        }
        return what == 0 ? Integer.bitCount(bits) : bits;
    }

    public int most(int side) {
        return within(side, 0, 1) ? porters.mostWeight(side, NONE) : BAD;
    }

    public int hold(int side) {
        if (!within(side, 0, 1)) {
            return BAD;
        }
        int held = NONE;
        int least = 0;
        for (int p = 0; p < island.people.size; p++) {
            if (island.sideOf(p) == side) {
                int weight = porters.mostWeight(side, p);
                if (held == NONE || weight < least) {
                    held = p;
                    least = weight;
                }
            }
        }
        return held;
    }

    public int game(int n, int what) {
        if (!within(n, 1, MOST_TURNS) || !within(what, 0, 1)) {
            return BAD_NUMBER;
        }
        int yes = layable(0);
        int no = layable(1);
        int tip = heap.tipAt(island.hours);
        return what == 0 ? playOut(island, n, 0, yes, no, tip) : firstStone(n, yes, no, tip);
    }

    // ---- the secret vote

    public int arm(int person, int v) {
        if (!within(person, 0, MOST_PEOPLE - 1) || !within(v, 0, FARTHEST)) {
            return BAD;
        }
        int was = island.arms[person];
        island.arms[person] = v;
        return was;
    }

    public int secret(int tip, int what) {
        if (!within(tip, -MOST_SECRET, MOST_SECRET) || !within(what, 0, 2)) {
            return BAD;
        }
        ballot.open(tip);
        if (what == 0) {
            return ballot.ways;
        }
        return what == 1 ? ballot.yesInAll : ballot.noInAll;
    }

    // ---- sheets

    public int sheet(int s, int form, int n) {
        if (!within(s, 0, MOST_SHEETS - 1) || !within(form, 0, FORMS - 1) || n > MOST_ITEMS) {
            return BAD;
        }
        if (n < 0) {
            return found(SIZE);
        }
        sheets[s].renew(form, n);
        return n;
    }

    public int lose(int s) {
        int refusal = refusalOf(s);
        if (refusal != 0) {
            return refusal;
        }
        int had = sheets[s].size;
        sheets[s].size = Sheet.LOST;
        return had;
    }

    public int lay(int s, int form, int i, int v) {
        int refusal = refusalOfItem(s, form, i);
        if (refusal != 0) {
            return refusal;
        }
        sheets[s].put(i, v);
        return 1;
    }

    public int get(int s, int form, int i) {
        return refusalOfItem(s, form, i) == 0 ? sheets[s].items[i] : NO_ITEM;
    }

    public int copy(int s, int i, int t, int j, int n) {
        if (!within(s, 0, MOST_SHEETS - 1) || !within(t, 0, MOST_SHEETS - 1)) {
            return BAD;
        }
        Sheet from = sheets[s];
        Sheet to = sheets[t];
        if (from.isLost() || to.isLost()) {
            return found(NULL);
        }
        if (from.form != to.form) {
            return found(STORE);
        }
        if (!from.hasRun(i, n) || !to.hasRun(j, n)) {
            return found(INDEX);
        }
        System.arraycopy(from.items, i, to.items, j, n);
        return 1;
    }

    public int write(int s) {
        int refusal = refusalOf(s);
        if (refusal != 0) {
            return refusal;
        }
        int n = Math.min(sheets[s].size, island.hours + 1);
        for (int hour = 0; hour < n; hour++) {
            sheets[s].put(hour, heap.tipAt(hour));
        }
        return n;
    }

    public int count(int what) {
        switch (what) {
            case 0: return island.people.size;
            case 1: return island.stones.size;
            case 2: return island.people.length;
            case 3: return island.stones.length;
            case 4: return carries.size;
            case 5: return carries.size - heap.lawful;
            case 6: return stonesLying();
            case 7: return island.hours;
            case 8: return finding;
            default: return BAD;
        }
    }

    public long digest() {
        long h = 17;
        for (int what = 0; what <= 7; what++) {
            h = 31 * h + count(what);
        }
        h = 31 * h + fault(0);
        h = 31 * h + fault(1);
        h = 31 * h + judged();
        h = digestPeopleAndStones(h);
        for (int c = 0; c < carries.size; c++) {
            h = 31 * h + laid(c);
            h = 31 * h + without(c);
        }
        return digestWhatCouldBe(digestHeap(h));
    }

    private long digestPeopleAndStones(long before) {
        long h = before;
        for (int p = 0; p < island.people.size; p++) {
            for (int what = 0; what <= 2; what++) {
                h = 31 * h + person(p, what);
            }
        }
        for (int s = 0; s < island.stones.size; s++) {
            for (int what = 0; what <= 2; what++) {
                h = 31 * h + stone(s, what);
            }
        }
        return h;
    }

    private long digestHeap(long before) {
        int end = island.hours;
        long h = 31 * before + tip(3);
        h = 31 * h + tip(end);
        h = 31 * h + shelf(0, 5, end);
        h = 31 * h + shelf(1, 1, end);
        h = 31 * h + slid(end);
        h = 31 * h + when();
        for (int rule = 0; rule <= 2; rule++) {
            h = 31 * h + result(rule);
        }
        h = 31 * h + settled();
        return 31 * h + doubles();
    }

    private long digestWhatCouldBe(long before) {
        long h = 31 * before + fewest(0);
        h = 31 * h + fewest(1);
        h = 31 * h + most(0);
        h = 31 * h + most(1);
        h = 31 * h + hold(0);
        h = 31 * h + hold(1);
        h = 31 * h + game(2, 0);
        h = 31 * h + game(2, 1);
        for (int what = 0; what <= 2; what++) {
            h = 31 * h + secret(3, what);
        }
        return h;
    }

    private int stonesLying() {
        heap.pileUp(island.hours);
        int lying = 0;
        for (int s = 0; s < island.stones.size; s++) {
            if (heap.place[s] != NONE) {
                lying++;
            }
        }
        return lying;
    }

    /** The stones, as bits, that were not carried and that some one of a side can lift. */
    private int layable(int side) {
        int strongest = island.strongest(side);
        int bits = 0;
        for (int s = 0; s < island.stones.size; s++) {
            if (heap.carrier[s] == NONE && island.weight(s) <= strongest) {
                bits |= 1 << s;
            }
        }
        return bits;
    }

    private int fewestBits() {
        int free = layable(0);
        int tip = heap.tipAt(island.hours);
        int best = NONE;
        int bestStones = 0;
        int bestWeight = 0;
        // Upwards, and only what is better takes over: so of like ones the least bits stay.
        for (int bits = 0; bits <= free; bits++) {
            if ((bits & ~free) != 0) {
                continue;
            }
            int stones = Integer.bitCount(bits);
            int weight = island.weightOf(bits);
            if (tip + FARTHEST * weight <= 0) {
                continue;
            }
            if (best == NONE || stones < bestStones || stones == bestStones && weight < bestWeight) {
                best = bits;
                bestStones = stones;
                bestWeight = weight;
            }
        }
        return best;
    }

    private int firstStone(int n, int yes, int no, int tip) {
        int first = NONE;
        int best = 0;
        for (int s = 0; s < island.stones.size; s++) {
            int bit = 1 << s;
            if ((yes & bit) != 0) {
                int end = playOut(island, n - 1, 1, yes & ~bit, no & ~bit, tip + FARTHEST * island.weight(s));
                if (first == NONE || end > best) {
                    first = s;
                    best = end;
                }
            }
        }
        return first;
    }

    /** The tip after the turns that are left, if both sides lay as well as can be; yes and no: what each may lay. */
    private static int playOut(Island island, int left, int side, int yes, int no, int tip) {
        if (left <= 0) {
            return tip;
        }
        int mine = side == 0 ? yes : no;
        if (mine == 0) {
            return playOut(island, left - 1, 1 - side, yes, no, tip);
        }
        int sign = side == 0 ? 1 : -1;
        boolean any = false;
        int best = 0;
        for (int s = 0; s < island.stones.size; s++) {
            int bit = 1 << s;
            if ((mine & bit) != 0) {
                int then = tip + sign * FARTHEST * island.weight(s);
                int end = playOut(island, left - 1, 1 - side, yes & ~bit, no & ~bit, then);
                if (!any || sign * end > sign * best) {
                    any = true;
                    best = end;
                }
            }
        }
        return best;
    }

    private int found(int number) {
        finding = number;
        return -10 - number;
    }

    /** BAD or NULL for a sheet, 0 if there is one to use. */
    private int refusalOf(int s) {
        if (!within(s, 0, MOST_SHEETS - 1)) {
            return BAD;
        }
        return sheets[s].isLost() ? found(NULL) : 0;
    }

    private int refusalOfItem(int s, int form, int i) {
        if (!within(s, 0, MOST_SHEETS - 1) || !within(form, 0, FORMS - 1)) {
            return BAD;
        }
        if (sheets[s].isLost()) {
            return found(NULL);
        }
        if (sheets[s].form != form) {
            return found(CAST);
        }
        return within(i, 0, sheets[s].size - 1) ? 0 : found(INDEX);
    }

    private static boolean within(int v, int least, int greatest) {
        return v >= least && v <= greatest;
    }

    private static int shelfNumber(int side, int arm) {
        return side * SHELVES + arm - 1;
    }

    /** A text of pairs: a figure from 1 on, and behind it a letter (people) or a figure (stones). */
    private static final class Text {
        private final int[] bytes;
        private final int mostPairs;
        private final boolean lettered;
        // What the pairs say, as long as there is no flaw: size of them.
        final int[] first;
        final int[] second;
        int length = 0;
        int flaw = NONE;
        int size = 0;

        Text(int room, int mostPairs, boolean lettered) {
            this.bytes = new int[room];
            this.mostPairs = mostPairs;
            this.lettered = lettered;
            this.first = new int[mostPairs];
            this.second = new int[mostPairs];
        }

        boolean isFull() {
            return length >= bytes.length;
        }

        void append(int b) {
            bytes[length] = b;
            length++;
            flaw = findFlaw();
            size = flaw == NONE ? length / 2 : 0;
            if (size > 0) {
                readLastPair();
            }
        }

        void clear() {
            length = 0;
            flaw = NONE;
            size = 0;
        }

        // The pairs before it were read when they were the last.
        private void readLastPair() {
            int b = bytes[2 * size - 1];
            first[size - 1] = bytes[2 * size - 2] - '0';
            if (lettered) {
                second[size - 1] = b == 'y' ? 0 : 1;
            } else {
                second[size - 1] = b - '0';
            }
        }

        private int findFlaw() {
            for (int i = 0; i < length; i++) {
                if (i >= 2 * mostPairs || !fits(i)) {
                    return i;
                }
            }
            return length % 2 == 0 ? NONE : length;
        }

        private boolean fits(int i) {
            int b = bytes[i];
            if (i % 2 == 0) {
                return within(b, '1', '9');
            }
            return lettered ? b == 'y' || b == 'n' : within(b, '0', '9');
        }
    }

    /** What was told of the island: its people and stones, the day, the tides, the arms of the secret vote. */
    private static final class Island {
        final Text people = new Text(16, MOST_PEOPLE, true);
        final Text stones = new Text(20, MOST_STONES, false);
        final int[] tides = new int[MOST_HOURS + 1];
        final int[] arms = new int[MOST_PEOPLE];
        int hours = 12;
        int load = MOST_LOAD;

        Island() {
            Arrays.fill(arms, 1);
        }

        Text text(int number) {
            return number == 0 ? people : stones;
        }

        int strength(int person) {
            return people.first[person];
        }

        int sideOf(int person) {
            return people.second[person];
        }

        int weight(int stone) {
            return stones.first[stone];
        }

        int way(int stone) {
            return stones.second[stone];
        }

        int weightOf(int bits) {
            int sum = 0;
            for (int s = 0; s < stones.size; s++) {
                if ((bits >> s & 1) != 0) {
                    sum += weight(s);
                }
            }
            return sum;
        }

        /** The greatest strength of a side; 0 if nobody is of it. */
        int strongest(int side) {
            int best = 0;
            for (int p = 0; p < people.size; p++) {
                if (sideOf(p) == side) {
                    best = Math.max(best, strength(p));
                }
            }
            return best;
        }
    }

    /** The carries as they were told, lawful or not. */
    private static final class Carries {
        final int[] person = new int[MOST_CARRIES];
        final int[] stone = new int[MOST_CARRIES];
        final int[] arm = new int[MOST_CARRIES];
        int size = 0;

        static boolean canBeTold(int person, int stone, int arm) {
            return within(person, 0, MOST_PEOPLE - 1) && within(stone, 0, MOST_STONES - 1)
                && within(arm, 1, SHELVES);
        }

        boolean isFull() {
            return size >= MOST_CARRIES;
        }

        void append(int who, int what, int where) {
            person[size] = who;
            stone[size] = what;
            arm[size] = where;
            size++;
        }
    }

    /** The carries judged by law, and the heap that they make at an hour. */
    private static final class Heap {
        private final Island island;
        private final Carries carries;
        final int[] laidAt = new int[MOST_CARRIES];
        final int[] carrier = new int[MOST_STONES];
        final int[] busyUntil = new int[MOST_PEOPLE];
        // The lawful carries by hour; no stone is carried twice, so there are no more of them than stones.
        private final int[] order = new int[MOST_STONES];
        int lawful = 0;
        final int[] onShelf = new int[SIDES * SHELVES];
        final int[] place = new int[MOST_STONES];
        int slidStones = 0;

        Heap(Island island, Carries carries) {
            this.island = island;
            this.carries = carries;
            Arrays.fill(carrier, NONE);
            Arrays.fill(place, NONE);
        }

        void judgeAll() {
            judgeWithout(NONE);
        }

        void judgeWithout(int leftOut) {
            Arrays.fill(carrier, NONE);
            Arrays.fill(busyUntil, 0);
            lawful = 0;
            for (int c = 0; c < carries.size; c++) {
                laidAt[c] = c == leftOut ? NONE : hourByLaw(c);
                if (laidAt[c] != NONE) {
                    take(c);
                }
            }
        }

        private int hourByLaw(int c) {
            int person = carries.person[c];
            int stone = carries.stone[c];
            if (person >= island.people.size || stone >= island.stones.size || carrier[stone] != NONE) {
                return NONE;
            }
            if (island.weight(stone) > island.strength(person)) {
                return NONE;
            }
            int hour = busyUntil[person] + island.way(stone) + 1;
            return hour <= island.hours ? hour : NONE;
        }

        private void take(int c) {
            carrier[carries.stone[c]] = carries.person[c];
            busyUntil[carries.person[c]] = laidAt[c];
            int at = lawful;
            while (at > 0 && laidAt[order[at - 1]] > laidAt[c]) {
                order[at] = order[at - 1];
                at--;
            }
            order[at] = c;
            lawful++;
        }

        /** Makes shelves, places and what has slid be those at an hour. */
        void pileUp(int hour) {
            Arrays.fill(onShelf, 0);
            Arrays.fill(place, NONE);
            slidStones = 0;
            for (int i = 0; i < lawful && laidAt[order[i]] <= hour; i++) {
                put(order[i]);
            }
        }

        private void put(int c) {
            int stone = carries.stone[c];
            int shelf = shelfNumber(island.sideOf(carries.person[c]), carries.arm[c]);
            place[stone] = shelf;
            onShelf[shelf] += island.weight(stone);
            if (onShelf[shelf] > island.load) {
                slide(shelf);
            }
        }

        private void slide(int shelf) {
            onShelf[shelf] = 0;
            for (int s = 0; s < MOST_STONES; s++) {
                if (place[s] == shelf) {
                    place[s] = NONE;
                    slidStones++;
                }
            }
        }

        /** The tip at an hour; the heap is piled up to that hour thereafter. */
        int tipAt(int hour) {
            pileUp(hour);
            int sum = island.tides[hour];
            for (int arm = 1; arm <= SHELVES; arm++) {
                sum += arm * (onShelf[shelfNumber(0, arm)] - onShelf[shelfNumber(1, arm)]);
            }
            return sum;
        }

        /** The weight on the shelves of side 0, less that of side 1, as the heap is piled up. */
        int weightLead() {
            int lead = 0;
            for (int arm = 1; arm <= SHELVES; arm++) {
                lead += onShelf[shelfNumber(0, arm)] - onShelf[shelfNumber(1, arm)];
            }
            return lead;
        }

        /** Those of side 0 with a stone that lies, less those of side 1, as the heap is piled up. */
        int votersLead() {
            int voters = 0;
            for (int s = 0; s < MOST_STONES; s++) {
                if (place[s] != NONE) {
                    voters |= 1 << carrier[s];
                }
            }
            int lead = 0;
            for (int p = 0; p < island.people.size; p++) {
                if ((voters >> p & 1) != 0) {
                    lead += island.sideOf(p) == 0 ? 1 : -1;
                }
            }
            return lead;
        }
    }

    /** The most weight that a side can carry in a day. */
    private static final class Porters {
        private static final int NEVER = 1 << 20;
        private static final int STEP = 32;

        private final Island island;
        private final int[] strengths = new int[MOST_PEOPLE];
        private int size = 0;
        /*
         * For each set of stones the least state in which porters, one filled behind the other, have carried
         * just it: the number of the porter at work times STEP, and that one's hours. A lesser state can do all
         * that a greater one can, so the least is all that need be kept.
         */
        private final int[] least = new int[1 << MOST_STONES];

        Porters(Island island) {
            this.island = island;
        }

        int mostWeight(int side, int heldBack) {
            gather(side, heldBack);
            int best = 0;
            least[0] = 0;
            for (int bits = 1; bits < 1 << island.stones.size; bits++) {
                least[bits] = leastFor(bits);
                if (least[bits] < NEVER) {
                    best = Math.max(best, island.weightOf(bits));
                }
            }
            return best;
        }

        private void gather(int side, int heldBack) {
            size = 0;
            for (int p = 0; p < island.people.size; p++) {
                if (p != heldBack && island.sideOf(p) == side) {
                    strengths[size] = island.strength(p);
                    size++;
                }
            }
        }

        private int leastFor(int bits) {
            int best = NEVER;
            for (int s = 0; s < island.stones.size; s++) {
                if ((bits >> s & 1) != 0) {
                    best = Math.min(best, after(least[bits & ~(1 << s)], s));
                }
            }
            return best;
        }

        /** The least state once one stone more is carried. */
        private int after(int state, int stone) {
            if (state >= NEVER) {
                return NEVER;
            }
            int weight = island.weight(stone);
            int takes = island.way(stone) + 1;
            int porter = state / STEP;
            for (int p = porter; p < size; p++) {
                int until = (p == porter ? state % STEP : 0) + takes;
                if (weight <= strengths[p] && until <= island.hours) {
                    return p * STEP + until;
                }
            }
            return NEVER;
        }
    }

    /** The ways in which a secret vote can have come to a tip. */
    private static final class Ballot {
        private final Island island;
        private final int[] pulls = new int[MOST_PEOPLE];
        // What those from a person on can tip together: beyond it no way is left.
        private final int[] reach = new int[MOST_PEOPLE + 1];
        private int size = 0;
        private int told = 0;
        int ways = 0;
        int yesInAll = 0;
        int noInAll = 0;

        Ballot(Island island) {
            this.island = island;
        }

        void open(int tip) {
            told = tip;
            size = island.people.size;
            reach[size] = 0;
            for (int p = size - 1; p >= 0; p--) {
                pulls[p] = island.strength(p) * island.arms[p];
                reach[p] = reach[p + 1] + pulls[p];
            }
            ways = 0;
            yesInAll = (1 << size) - 1;
            noInAll = yesInAll;
            vote(this, 0, 0, 0, 0);
            if (ways == 0) {
                yesInAll = 0;
                noInAll = 0;
            }
        }

        private static void vote(Ballot ballot, int person, int tip, int yes, int no) {
            if (Math.abs(ballot.told - tip) > ballot.reach[person]) {
                return;
            }
            if (person >= ballot.size) {
                ballot.ways++;
                ballot.yesInAll &= yes;
                ballot.noInAll &= no;
                return;
            }
            int pull = ballot.pulls[person];
            vote(ballot, person + 1, tip, yes, no);
            vote(ballot, person + 1, tip + pull, yes | 1 << person, no);
            vote(ballot, person + 1, tip - pull, yes, no | 1 << person);
        }
    }

    /** A row of items of a form, or none. */
    private static final class Sheet {
        static final int LOST = -1;

        final int[] items = new int[MOST_ITEMS];
        int form = 0;
        int size = LOST;

        boolean isLost() {
            return size == LOST;
        }

        void renew(int newForm, int n) {
            form = newForm;
            size = n;
            Arrays.fill(items, 0);
        }

        void put(int i, int v) {
            if (form == 0) {
                items[i] = (byte) v;
            } else if (form == 1) {
                items[i] = (short) v;
            } else {
                items[i] = v;
            }
        }

        boolean hasRun(int from, int n) {
            return from >= 0 && n >= 0 && from <= size && n <= size - from;
        }
    }
}
