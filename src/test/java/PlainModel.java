import java.util.ArrayList;
import java.util.Arrays;
import java.util.List;

/** The document written a second time, as plainly as can be, with nothing shared with the class under test. */
final class PlainModel {
    private static final int LEAST_INT = Integer.MIN_VALUE;
    private static final int BAD_NUMBER = -10002;

    /** A carry as told; hour is filled in when it is judged (-1: against the law). */
    private static final class Told {
        final int person;
        final int stone;
        final int arm;
        int hour = -1;

        Told(int person, int stone, int arm) {
            this.person = person;
            this.stone = stone;
            this.arm = arm;
        }
    }

    private final StringBuilder[] texts = {new StringBuilder(), new StringBuilder()};
    private final List<Told> carries = new ArrayList<>();
    private final int[] tides = new int[25];
    private final int[] arms = {1, 1, 1, 1, 1, 1, 1, 1};
    private final Object[] sheets = new Object[4];
    private int hours = 12;
    private int load = 99;
    private int finding = 0;

    int type(int text, int b) {
        if (text < 0 || text > 1 || b < 0 || b > 255) {
            return -2;
        }
        if (texts[text].length() == (text == 0 ? 16 : 20)) {
            return -4;
        }
        texts[text].append((char) b);
        return texts[text].length();
    }

    int wipe(int text) {
        if (text < 0 || text > 1) {
            return -2;
        }
        int had = texts[text].length();
        texts[text].setLength(0);
        return had;
    }

    int fault(int text) {
        if (text < 0 || text > 1) {
            return -2;
        }
        StringBuilder t = texts[text];
        String second = text == 0 ? "yn" : "0123456789";
        int most = text == 0 ? 8 : 9;
        int place = 0;
        for (int pair = 0; pair < most && place < t.length(); pair++) {
            if ("123456789".indexOf(t.charAt(place)) < 0) {
                return place;
            }
            if (place + 1 == t.length() || second.indexOf(t.charAt(place + 1)) < 0) {
                return place + 1;
            }
            place += 2;
        }
        return place == t.length() ? -1 : place;
    }

    private int people() {
        return fault(0) == -1 ? texts[0].length() / 2 : 0;
    }

    private int stones() {
        return fault(1) == -1 ? texts[1].length() / 2 : 0;
    }

    private int strength(int p) {
        return Character.digit(texts[0].charAt(2 * p), 10);
    }

    private int side(int p) {
        return "yn".indexOf(texts[0].charAt(2 * p + 1));
    }

    private int weight(int s) {
        return Character.digit(texts[1].charAt(2 * s), 10);
    }

    private int way(int s) {
        return Character.digit(texts[1].charAt(2 * s + 1), 10);
    }

    /** Judges a list of carries: the hours are written into it. */
    private void judge(List<Told> list) {
        for (int c = 0; c < list.size(); c++) {
            Told told = list.get(c);
            told.hour = -1;
            if (told.person >= people() || told.stone >= stones() || weight(told.stone) > strength(told.person)) {
                continue;
            }
            int begin = 0;
            boolean carried = false;
            for (Told earlier : list.subList(0, c)) {
                carried |= earlier.hour >= 0 && earlier.stone == told.stone;
                if (earlier.hour >= 0 && earlier.person == told.person) {
                    begin = earlier.hour;
                }
            }
            int end = begin + way(told.stone) + 1;
            if (!carried && end <= hours) {
                told.hour = end;
            }
        }
    }

    /** The carries whose stones lie on shelves at an hour, hour by hour. */
    private List<Told> lying(List<Told> list, int hour) {
        judge(list);
        List<Told> lying = new ArrayList<>();
        for (int h = 1; h <= hour; h++) {
            for (Told told : list) {
                if (told.hour == h) {
                    lying.add(told);
                    if (onShelf(lying, side(told.person), told.arm) > load) {
                        lying.removeIf(x -> x.arm == told.arm && side(x.person) == side(told.person));
                    }
                }
            }
        }
        return lying;
    }

    private int onShelf(List<Told> lying, int side, int arm) {
        int sum = 0;
        for (Told told : lying) {
            sum += told.arm == arm && side(told.person) == side ? weight(told.stone) : 0;
        }
        return sum;
    }

    private int tipOf(List<Told> list, int hour) {
        int sum = tides[hour];
        for (Told told : lying(list, hour)) {
            sum += weight(told.stone) * told.arm * (side(told.person) == 0 ? 1 : -1);
        }
        return sum;
    }

    int person(int person, int what) {
        if (person < 0 || person >= people() || what < 0 || what > 2) {
            return -2;
        }
        judge(carries);
        int last = 0;
        for (Told told : carries) {
            last = told.person == person && told.hour >= 0 ? told.hour : last;
        }
        return new int[] {strength(person), side(person), last}[what];
    }

    int stone(int stone, int what) {
        if (stone < 0 || stone >= stones() || what < 0 || what > 2) {
            return -2;
        }
        return new int[] {weight(stone), way(stone), carrier(stone)}[what];
    }

    private int carrier(int stone) {
        judge(carries);
        for (Told told : carries) {
            if (told.stone == stone && told.hour >= 0) {
                return told.person;
            }
        }
        return -1;
    }

    int set(int what, int v) {
        if (what < 0 || what > 1 || v < 1 || v > (what == 0 ? 24 : 99)) {
            return -2;
        }
        int was = what == 0 ? hours : load;
        hours = what == 0 ? v : hours;
        load = what == 1 ? v : load;
        return was;
    }

    int tide(int hour, int v) {
        if (hour < 0 || hour > 24 || v < -50 || v > 50) {
            return BAD_NUMBER;
        }
        int was = tides[hour];
        tides[hour] = v;
        return was;
    }

    int carry(int person, int stone, int arm) {
        if (person < 0 || person > 7 || stone < 0 || stone > 8 || arm < 1 || arm > 5) {
            return -2;
        }
        if (carries.size() == 30) {
            return -4;
        }
        carries.add(new Told(person, stone, arm));
        return carries.size();
    }

    int read(int s) {
        if (s < 0 || s > 3) {
            return -2;
        }
        if (sheets[s] == null) {
            return found(1);
        }
        int read = 0;
        while (3 * read + 2 < size(s)
            && carry(item(s, 3 * read), item(s, 3 * read + 1), item(s, 3 * read + 2)) > 0) {
            read++;
        }
        return read;
    }

    int undo() {
        if (carries.isEmpty()) {
            return -3;
        }
        carries.remove(carries.size() - 1);
        return carries.size();
    }

    int judged() {
        judge(carries);
        for (int c = 0; c < carries.size(); c++) {
            if (carries.get(c).hour < 0) {
                return c;
            }
        }
        return -1;
    }

    int laid(int carry) {
        if (carry < 0 || carry >= carries.size()) {
            return -2;
        }
        judge(carries);
        return carries.get(carry).hour;
    }

    int tip(int hour) {
        return hour < 0 || hour > 24 ? BAD_NUMBER : tipOf(carries, hour);
    }

    int shelf(int side, int arm, int hour) {
        if (side < 0 || side > 1 || arm < 1 || arm > 5 || hour < 0 || hour > 24) {
            return -2;
        }
        return onShelf(lying(carries, hour), side, arm);
    }

    int slid(int hour) {
        if (hour < 0 || hour > 24) {
            return -2;
        }
        int slid = -lying(carries, hour).size();
        for (Told told : carries) {
            slid += told.hour >= 0 && told.hour <= hour ? 1 : 0;
        }
        return slid;
    }

    int when() {
        for (int h = 0; h <= hours; h++) {
            if (tip(h) > 0) {
                return h;
            }
        }
        return -1;
    }

    int result(int rule) {
        if (rule < 0 || rule > 2) {
            return BAD_NUMBER;
        }
        List<Told> lying = lying(carries, hours);
        int weights = 0;
        for (Told told : lying) {
            weights += side(told.person) == 0 ? weight(told.stone) : -weight(told.stone);
        }
        int voters = 0;
        for (int p = 0; p < people(); p++) {
            int who = p;
            if (lying.stream().anyMatch(x -> x.person == who)) {
                voters += side(p) == 0 ? 1 : -1;
            }
        }
        return new int[] {tip(hours), weights, voters}[rule];
    }

    int without(int carry) {
        if (carry < 0 || carry >= carries.size()) {
            return BAD_NUMBER;
        }
        List<Told> others = new ArrayList<>(carries);
        others.remove(carry);
        return tipOf(others, hours);
    }

    int settled() {
        int end = tip(hours);
        for (int from = 0; from <= hours && end != 0; from++) {
            boolean all = true;
            for (int h = from; h <= hours; h++) {
                all &= end > 0 ? tip(h) > 0 : tip(h) < 0;
            }
            if (all) {
                return from;
            }
        }
        return -1;
    }

    int doubles() {
        int[] told = new int[9];
        for (Told t : carries) {
            told[t.stone]++;
        }
        int bits = 0;
        for (int s = 0; s < 9; s++) {
            bits += told[s] > 1 ? 1 << s : 0;
        }
        return bits;
    }

    private boolean canLay(int side, int stone) {
        boolean lifts = false;
        for (int p = 0; p < people(); p++) {
            lifts |= side(p) == side && strength(p) >= weight(stone);
        }
        return lifts && carrier(stone) == -1;
    }

    int fewest(int what) {
        if (what < 0 || what > 1) {
            return -2;
        }
        int tip = tip(hours);
        boolean[] free = new boolean[9];
        for (int s = 0; s < stones(); s++) {
            free[s] = canLay(0, s);
        }
        // Count, weight and bits in one number: the least is the one that is asked for.
        int best = Integer.MAX_VALUE;
        for (int bits = 0; bits < 512; bits++) {
            int weight = 0;
            boolean may = true;
            for (int s = 0; s < 9; s++) {
                if ((bits & 1 << s) != 0) {
                    may &= free[s];
                    weight += free[s] ? weight(s) : 0;
                }
            }
            if (may && tip + 5 * weight > 0) {
                best = Math.min(best, Integer.bitCount(bits) * 1000000 + weight * 1000 + bits);
            }
        }
        if (best == Integer.MAX_VALUE) {
            return -1;
        }
        return what == 0 ? best / 1000000 : best % 1000;
    }

    int most(int side) {
        return side < 0 || side > 1 ? -2 : mostWithout(side, -1);
    }

    /** For each set of stones, by one person after the other: what can be carried out of it at most. */
    private int mostWithout(int side, int held) {
        int all = 1 << stones();
        int[] takes = new int[all];
        int[] weighs = new int[all];
        int[] heaviest = new int[all];
        for (int set = 1; set < all; set++) {
            int s = Integer.numberOfTrailingZeros(set);
            int rest = set & (set - 1);
            takes[set] = takes[rest] + way(s) + 1;
            weighs[set] = weighs[rest] + weight(s);
            heaviest[set] = Math.max(heaviest[rest], weight(s));
        }
        int[] best = new int[all];
        for (int p = 0; p < people(); p++) {
            if (side(p) != side || p == held) {
                continue;
            }
            int[] next = best.clone();
            for (int set = 0; set < all; set++) {
                for (int own = set; own > 0; own = own - 1 & set) {
                    if (takes[own] <= hours && heaviest[own] <= strength(p)) {
                        next[set] = Math.max(next[set], best[set & ~own] + weighs[own]);
                    }
                }
            }
            best = next;
        }
        return best[all - 1];
    }

    int hold(int side) {
        if (side < 0 || side > 1) {
            return -2;
        }
        int best = Integer.MAX_VALUE;
        for (int p = 0; p < people(); p++) {
            if (side(p) == side) {
                best = Math.min(best, mostWithout(side, p) * 10 + p);
            }
        }
        return best == Integer.MAX_VALUE ? -1 : best % 10;
    }

    int game(int n, int what) {
        if (n < 1 || n > 4 || what < 0 || what > 1) {
            return BAD_NUMBER;
        }
        boolean[][] may = new boolean[2][9];
        for (int s = 0; s < stones(); s++) {
            may[0][s] = canLay(0, s);
            may[1][s] = canLay(1, s);
        }
        return turn(n, 0, may, new boolean[9], tip(hours))[what];
    }

    /** What it comes to, and the stone laid now. */
    private int[] turn(int left, int side, boolean[][] may, boolean[] gone, int tip) {
        if (left == 0) {
            return new int[] {tip, -1};
        }
        int[] best = null;
        for (int s = 0; s < 9; s++) {
            if (gone[s] || !may[side][s]) {
                continue;
            }
            boolean[] then = gone.clone();
            then[s] = true;
            int end = turn(left - 1, 1 - side, may, then, tip + (side == 0 ? 5 : -5) * weight(s))[0];
            if (best == null || (side == 0 ? end > best[0] : end < best[0])) {
                best = new int[] {end, s};
            }
        }
        return best != null ? best : new int[] {turn(left - 1, 1 - side, may, gone, tip)[0], -1};
    }

    int arm(int person, int v) {
        if (person < 0 || person > 7 || v < 0 || v > 5) {
            return -2;
        }
        int was = arms[person];
        arms[person] = v;
        return was;
    }

    int secret(int tip, int what) {
        if (tip < -999 || tip > 999 || what < 0 || what > 2) {
            return -2;
        }
        int n = people();
        int ways = 0;
        int[] yes = new int[8];
        int[] no = new int[8];
        for (int way = 0; way < Math.pow(3, n); way++) {
            int sum = 0;
            for (int p = 0, votes = way; p < n; p++, votes /= 3) {
                sum += (votes % 3 - 1) * strength(p) * arms[p];
            }
            if (sum == tip) {
                ways++;
                for (int p = 0, votes = way; p < n; p++, votes /= 3) {
                    yes[p] += votes % 3 == 2 ? 1 : 0;
                    no[p] += votes % 3 == 0 ? 1 : 0;
                }
            }
        }
        int yesBits = 0;
        int noBits = 0;
        for (int p = 0; p < n && ways > 0; p++) {
            yesBits |= yes[p] == ways ? 1 << p : 0;
            noBits |= no[p] == ways ? 1 << p : 0;
        }
        return new int[] {ways, yesBits, noBits}[what];
    }

    private int found(int number) {
        finding = number;
        return -10 - number;
    }

    private int form(int s) {
        return sheets[s] instanceof byte[] ? 0 : sheets[s] instanceof short[] ? 1 : 2;
    }

    private int size(int s) {
        return java.lang.reflect.Array.getLength(sheets[s]);
    }

    private int item(int s, int i) {
        return java.lang.reflect.Array.getInt(sheets[s], i);
    }

    private void put(int s, int i, int v) {
        if (sheets[s] instanceof byte[] bytes) {
            bytes[i] = (byte) v;
        } else if (sheets[s] instanceof short[] shorts) {
            shorts[i] = (short) v;
        } else if (sheets[s] instanceof int[] ints) {
            ints[i] = v;
        }
    }

    int sheet(int s, int form, int n) {
        if (s < 0 || s > 3 || form < 0 || form > 2 || n > 60) {
            return -2;
        }
        if (n < 0) {
            return found(5);
        }
        sheets[s] = form == 0 ? new byte[n] : form == 1 ? new short[n] : (Object) new int[n];
        return n;
    }

    int lose(int s) {
        if (s < 0 || s > 3) {
            return -2;
        }
        if (sheets[s] == null) {
            return found(1);
        }
        int had = size(s);
        sheets[s] = null;
        return had;
    }

    private int refusal(int s, int form, int i) {
        if (s < 0 || s > 3 || form < 0 || form > 2) {
            return -2;
        }
        if (sheets[s] == null) {
            return found(1);
        }
        if (form(s) != form) {
            return found(3);
        }
        return i < 0 || i >= size(s) ? found(2) : 1;
    }

    int lay(int s, int form, int i, int v) {
        int answer = refusal(s, form, i);
        if (answer == 1) {
            put(s, i, v);
        }
        return answer;
    }

    int get(int s, int form, int i) {
        return refusal(s, form, i) == 1 ? item(s, i) : LEAST_INT;
    }

    int copy(int s, int i, int t, int j, int n) {
        if (s < 0 || s > 3 || t < 0 || t > 3) {
            return -2;
        }
        if (sheets[s] == null || sheets[t] == null) {
            return found(1);
        }
        if (form(s) != form(t)) {
            return found(4);
        }
        if (i < 0 || j < 0 || n < 0 || (long) i + n > size(s) || (long) j + n > size(t)) {
            return found(2);
        }
        System.arraycopy(sheets[s], i, sheets[t], j, n);
        return 1;
    }

    int write(int s) {
        if (s < 0 || s > 3) {
            return -2;
        }
        if (sheets[s] == null) {
            return found(1);
        }
        int h = 0;
        while (h < size(s) && h <= hours) {
            put(s, h, tip(h));
            h++;
        }
        return h;
    }

    int count(int what) {
        if (what < 0 || what > 8) {
            return -2;
        }
        int lying = lying(carries, hours).size();
        int against = 0;
        for (Told told : carries) {
            against += told.hour < 0 ? 1 : 0;
        }
        return new int[] {people(), stones(), texts[0].length(), texts[1].length(), carries.size(), against, lying,
            hours, finding}[what];
    }

    long digest() {
        List<Integer> parts = new ArrayList<>();
        for (int what = 0; what <= 7; what++) {
            parts.add(count(what));
        }
        parts.addAll(Arrays.asList(fault(0), fault(1), judged()));
        for (int p = 0; p < people(); p++) {
            parts.addAll(Arrays.asList(person(p, 0), person(p, 1), person(p, 2)));
        }
        for (int s = 0; s < stones(); s++) {
            parts.addAll(Arrays.asList(stone(s, 0), stone(s, 1), stone(s, 2)));
        }
        for (int c = 0; c < carries.size(); c++) {
            parts.addAll(Arrays.asList(laid(c), without(c)));
        }
        parts.addAll(Arrays.asList(tip(3), tip(hours), shelf(0, 5, hours), shelf(1, 1, hours), slid(hours), when(),
            result(0), result(1), result(2), settled(), doubles(), fewest(0), fewest(1), most(0), most(1), hold(0),
            hold(1), game(2, 0), game(2, 1), secret(3, 0), secret(3, 1), secret(3, 2)));
        long h = 17;
        for (int part : parts) {
            h = 31 * h + part;
        }
        return h;
    }
}
