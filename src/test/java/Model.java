import java.math.BigInteger;
import java.util.ArrayDeque;
import java.util.ArrayList;
import java.util.Arrays;
import java.util.Deque;
import java.util.HashMap;
import java.util.List;
import java.util.Map;

/** The document a second time, slowly and in another way, to hold OneHandEach against. */
final class Model {
    private static final int BAD = -1, NOT = -2, FULL = -3, STATE = -5, VOID = -2000000000;

    private final int[] off = new int[2], gain = new int[2];
    private final int[] town = {0, 10, 20};
    private List<int[]> sights = new ArrayList<>(), guns = new ArrayList<>();
    private List<List<Integer>> sets = List.of(new ArrayList<>(), new ArrayList<>());
    private String tape = "", law = null;
    private final Deque<int[]> undone = new ArrayDeque<>();
    private final ArrayList<int[]> done = new ArrayList<>();
    private Map<String, Object> image = null;
    private final List<Hand> bodies = new ArrayList<>();
    private List<Integer> trace = new ArrayList<>();
    private final Object[] shelves = new Object[6];

    // ---- clocks

    private int[] amounts(int number, int what) {
        if (what == 0 && (number == 0 || number == 1)) return off;
        if (what == 1 && (number == 0 || number == 1)) return gain;
        return number == 0 && what >= 2 && what <= 4 ? town : null;
    }

    private static int index(int number, int what) {
        return what < 2 ? number : what - 2;
    }

    int mend(int number, int what, int v) {
        int[] row = amounts(number, what);
        if (row == null) return VOID;
        int[] least = {-360, -9, 0, 0, town[1]}, most = {359, 9, 9, town[2], 99};
        if (v < least[what] || v > most[what]) return VOID;
        int was = row[index(number, what)];
        if (v == was) return was;
        row[index(number, what)] = v;
        done.add(new int[] {number, what, was, v});
        if (done.size() > 40) done.remove(0);
        undone.clear();
        return was;
    }

    int of(int number, int what) {
        int[] row = amounts(number, what);
        if (row != null) return row[index(number, what)];
        List<int[]> told = what >= 20 ? guns : sights;
        int which = what >= 20 ? what - 20 : what - 10;
        int width = what >= 20 ? 3 : 4;
        return which < 0 || which >= width || number < 0 || number >= told.size() ? VOID : told.get(number)[which];
    }

    private static int timeBy(int o, int g, long minute) {
        long shown = minute + o + minute * g / 100;
        return (int) ((shown % 720 + 720) % 720);
    }

    private static int part(int clock, int time) {
        return clock == 0 ? time / 12 : time % 60;
    }

    private int partAt(int clock, int minute) {
        return part(clock, timeBy(off[clock], gain[clock], minute));
    }

    private boolean near(int a, int b) {
        for (int by = -town[0]; by <= town[0]; by++) {
            if ((a + by + 60) % 60 == b) return true;
        }
        return false;
    }

    int shown(int clock, int minute, int what) {
        if (clock < 0 || clock > 1 || minute < 0 || minute > 99999 || what < 0 || what > 1) return BAD;
        int time = timeBy(off[clock], gain[clock], minute);
        return what == 0 ? time : part(clock, time);
    }

    int feed(int letter) {
        if (letter < 0 || letter > 255) return BAD;
        if (tape.length() == 120) return FULL;
        tape += (char) letter;
        return tape.length();
    }

    int law() {
        String text = tape;
        tape = "";
        int fault = faultOf(text);
        if (fault >= 0) return -100 - fault;
        law = text;
        return 1;
    }

    /** A scan by states, with a stack of what each open parenthesis stands in. */
    static int faultOf(String text) {
        Deque<int[]> outer = new ArrayDeque<>();
        boolean wanted = true, asked = false;
        int compared = 0, prefixes = 0, open = 0, digits = 0;
        for (int i = 0; i < text.length(); i++) {
            char c = text.charAt(i);
            boolean digit = c >= '0' && c <= '9';
            if (wanted) {
                if (digit || "thmse".indexOf(c) >= 0) {
                    digits = digit ? 1 : 0;
                    wanted = false;
                    open -= prefixes;
                    prefixes = 0;
                } else if ("(!-".indexOf(c) >= 0 && open < 6) {
                    open++;
                    if (c == '(') {
                        outer.push(new int[] {compared, prefixes});
                        compared = 0;
                        prefixes = 0;
                    } else {
                        prefixes++;
                    }
                } else {
                    return i;
                }
                continue;
            }
            if (digit && digits > 0 && digits < 4) {
                digits++;
                continue;
            }
            digits = 0;
            if ("*/%+-".indexOf(c) >= 0) {
                wanted = true;
            } else if ("<=>".indexOf(c) >= 0 && compared == 0) {
                compared = 1;
                wanted = true;
            } else if ("&|".indexOf(c) >= 0) {
                compared = 0;
                wanted = true;
            } else if (c == ')' && !outer.isEmpty()) {
                int[] around = outer.pop();
                compared = around[0];
                open -= 1 + around[1];
            } else if (c == '?' && outer.isEmpty() && !asked) {
                asked = true;
                compared = 0;
                wanted = true;
            } else if (c == ';' && outer.isEmpty()) {
                asked = false;
                compared = 0;
                wanted = true;
            } else {
                return i;
            }
        }
        return wanted || !outer.isEmpty() ? text.length() : -1;
    }

    int weight(int time) {
        return time < 0 || time > 719 ? BAD : weightOf(time);
    }

    private int weightOf(int time) {
        if (law == null) return 1;
        for (String line : law.split(";")) {
            int q = line.indexOf('?');
            if (q < 0 || value(line.substring(0, q), time) != 0) {
                return Math.max(0, Math.min(99, value(line.substring(q + 1), time)));
            }
        }
        return 0;
    }

    /** Parts a text at the latest sign of the loosest rank that stands outside of parentheses. */
    private int value(String s, int time) {
        String[] ranks = {"|", "&", "<=>", "+-", "*/%"};
        for (String rank : ranks) {
            int deep = 0;
            for (int i = s.length() - 1; i > 0; i--) {
                char c = s.charAt(i);
                deep += c == ')' ? 1 : c == '(' ? -1 : 0;
                boolean between = Character.isLetterOrDigit(s.charAt(i - 1)) || s.charAt(i - 1) == ')';
                if (deep == 0 && between && rank.indexOf(c) >= 0) {
                    return joined(c, value(s.substring(0, i), time), value(s.substring(i + 1), time));
                }
            }
        }
        switch (s.charAt(0)) {
            case '!': return value(s.substring(1), time) == 0 ? 1 : 0;
            case '-': return -value(s.substring(1), time);
            case '(': return value(s.substring(1, s.length() - 1), time);
            case 't': return time;
            case 'h': return time / 60;
            case 'm': return time % 60;
            case 's': return sights.size();
            case 'e': return town[0];
            default: return Integer.parseInt(s);
        }
    }

    private static int joined(char c, int a, int b) {
        BigInteger left = BigInteger.valueOf(a), right = BigInteger.valueOf(b);
        switch (c) {
            case '|': return a != 0 || b != 0 ? 1 : 0;
            case '&': return a != 0 && b != 0 ? 1 : 0;
            case '<': return a < b ? 1 : 0;
            case '=': return a == b ? 1 : 0;
            case '>': return a > b ? 1 : 0;
            case '+': return left.add(right).intValue();
            case '-': return left.subtract(right).intValue();
            case '*': return left.multiply(right).intValue();
            case '/': return b == 0 ? 0 : left.divide(right).intValue();
            default: return b == 0 ? 0 : left.remainder(right).intValue();
        }
    }

    // ---- sights

    private static boolean isSight(long clock, long part, long from, long to) {
        return (clock == 0 || clock == 1) && part >= 0 && part <= 59 && from >= 0 && to >= from && to <= 99;
    }

    int sight(int cp, int ft) {
        if (cp < 0 || ft < 0) return BAD;
        int[] sight = {cp / 100, cp % 100, ft / 100, ft % 100};
        if (!isSight(sight[0], sight[1], sight[2], sight[3])) return BAD;
        if (sights.size() == 8) return FULL;
        sights.add(sight);
        return sights.size() - 1;
    }

    int sights(int shelf, int i, int n) {
        if (shelf < 0 || shelf > 5 || n < 1 || n > 8) return BAD;
        if (shelves[shelf] == null) return 0;
        if (!(shelves[shelf] instanceof byte[])) return -12;
        byte[] row = (byte[]) shelves[shelf];
        int came = 0;
        try {
            while (came < n && sights.size() < 8) {
                int at = Math.addExact(i, 4 * came);
                int[] four = {row[at], row[at + 1], row[at + 2], row[at + 3]};
                if (!isSight(four[0], four[1], four[2], four[3])) return came;
                sights.add(four);
                came++;
            }
        } catch (IndexOutOfBoundsException end) {
            return came;
        }
        return came;
    }

    int forget() {
        if (sights.isEmpty()) return STATE;
        sights.remove(sights.size() - 1);
        return sights.size();
    }

    private List<Integer> fitting(List<int[]> all) {
        List<Integer> fit = new ArrayList<>();
        for (int t = 0; t < 720; t++) {
            boolean each = true;
            for (int[] sight : all) {
                boolean one = false;
                for (int d = sight[2]; d <= sight[3] && !one; d++) {
                    one = near(partAt(sight[0], t + d), sight[1]);
                }
                each = each && one;
            }
            if (each) fit.add(t);
        }
        return fit;
    }

    int fits(int k) {
        if (k < -1) return BAD;
        List<Integer> fit = fitting(sights);
        return k == -1 ? fit.size() : k < fit.size() ? fit.get(k) : NOT;
    }

    int chance(int ab, int part) {
        if (ab < 0 || ab % 1000 > 719 || ab / 1000 > ab % 1000 || part < 0 || part > 1) return BAD;
        int above = 0, below = 0;
        for (int t : fitting(sights)) {
            below += weightOf(t);
            above += t >= ab / 1000 && t <= ab % 1000 ? weightOf(t) : 0;
        }
        if (below == 0) return part;
        int shared = BigInteger.valueOf(above).gcd(BigInteger.valueOf(below)).intValue();
        return (part == 0 ? above : below) / shared;
    }

    int likely() {
        int best = NOT;
        for (int t : fitting(sights)) {
            if (best == NOT || weightOf(t) > weightOf(best)) best = t;
        }
        return best;
    }

    int tells(int sight) {
        if (sight < 0 || sight >= sights.size()) return BAD;
        List<int[]> without = new ArrayList<>(sights);
        without.remove(sight);
        return fitting(without).size() - fitting(sights).size();
    }

    int next(int d, int what) {
        if (d < 0 || d > 99 || what < 0 || what > 1) return BAD;
        int[] most = new int[2];
        for (int clock = 0; clock < 2; clock++) {
            Map<Integer, Integer> tally = new HashMap<>();
            for (int t : fitting(sights)) {
                most[clock] = Math.max(most[clock], tally.merge(partAt(clock, t + d), 1, Integer::sum));
            }
        }
        if (most[0] == 0) return NOT;
        int clock = most[1] < most[0] ? 1 : 0;
        return what == 0 ? clock : most[clock];
    }

    int lot(int seed, int n, int what) {
        if (n < 1 || n > 20 || what < 0 || what > 1) return BAD;
        int z = seed, together = 0, one = 0;
        for (int i = 0; i < n; i++) {
            z = z * 1103515245 + 12345;
            int time = (z >>> 8) % 720;
            z = z * 1103515245 + 12345;
            int walk = town[1] + (z >>> 8) % (town[2] - town[1] + 1);
            int fit = fitting(List.of(new int[] {0, partAt(0, time), 0, 0},
                new int[] {1, partAt(1, time + walk), town[1], town[2]})).size();
            together += fit;
            if (fit == 1) one++;
        }
        return what == 0 ? together : one;
    }

    // ---- guns, meetings

    int gun(int cd, int part) {
        if (cd < 0 || cd / 100 > 1 || cd % 100 > 40 || part < 0 || part > 59) return BAD;
        if (guns.size() == 10) return FULL;
        guns.add(new int[] {cd / 100, cd % 100, part});
        return guns.size() - 1;
    }

    private List<int[]> guesses(int clock, int without) {
        List<int[]> all = new ArrayList<>();
        for (int o = -30; o <= 30; o++) {
            for (int g = -9; g <= 9; g++) {
                boolean each = true;
                for (int i = 0; i < guns.size(); i++) {
                    int[] gun = guns.get(i);
                    if (gun[0] == clock && (without >> i & 1) == 0) {
                        each = each && near(part(clock, timeBy(o, g, 720 * gun[1])), gun[2]);
                    }
                }
                if (each) all.add(new int[] {o, g});
            }
        }
        return all;
    }

    int guess(int clock, int what) {
        if (clock < 0 || clock > 1 || what < 0 || what > 6) return VOID;
        List<int[]> all = guesses(clock, 0);
        if (what == 0) return all.size();
        if (all.isEmpty()) return NOT;
        if (what < 3) return all.get(0)[what - 1];
        int which = (what - 3) / 2;
        int[] sorted = all.stream().mapToInt(g -> g[which]).sorted().toArray();
        return what % 2 == 1 ? sorted[0] : sorted[sorted.length - 1];
    }

    int liars(int clock) {
        if (clock < 0 || clock > 1) return BAD;
        int own = 0;
        for (int i = 0; i < guns.size(); i++) own |= guns.get(i)[0] == clock ? 1 << i : 0;
        for (int few = 0; few <= 10; few++) {
            for (int set = 0; set < 1024; set++) {
                if ((set & ~own) == 0 && Integer.bitCount(set) == few && !guesses(clock, set).isEmpty()) return set;
            }
        }
        throw new IllegalStateException();
    }

    int agree(int a, int b, int what) {
        if (a < 0 || a > 99999 || b < a || b > 99999 || b - a > 1440 || what < 0 || what > 1) return BAD;
        List<Integer> alike = new ArrayList<>();
        for (int t = a; t <= b; t++) if (shown(0, t, 0) == shown(1, t, 0)) alike.add(t);
        return what == 0 ? alike.size() : alike.isEmpty() ? NOT : alike.get(0);
    }

    int meet(int t, int pq, int what) {
        if (t < 0 || t > 99999 || pq < 0 || pq / 100 > 59 || pq % 100 > 59 || what < 0 || what > 2) return BAD;
        int[] first = {-1, -1}, parts = {pq / 100, pq % 100};
        for (int clock = 0; clock < 2; clock++) {
            for (int m = t + 1439; m >= t; m--) if (partAt(clock, m) == parts[clock]) first[clock] = m;
        }
        if (first[0] < 0 || first[1] < 0) return NOT;
        return what == 2 ? Math.max(first[0], first[1]) - Math.min(first[0], first[1]) : first[what];
    }

    int round(int clock, int x) {
        if (clock < 0 || clock > 1 || x < 0 || x > 60) return BAD;
        int r = 0;
        while (r < 720 && Math.abs((r + 1) * gain[clock] / 100) <= x) r++;
        return r;
    }

    int set(int clock, int minute) {
        if (clock < 0 || clock > 1 || minute < 0 || minute > 99999) return VOID;
        int want = shown(1 - clock, minute, 0);
        for (int o = -360; o < 360; o++) {
            if (timeBy(o, gain[clock], minute) == want) off[clock] = o;
        }
        sets.get(clock).add(minute);
        return off[clock];
    }

    int led(int clock, int what) {
        if (clock < 0 || clock > 1 || what < 0 || what > 1) return BAD;
        List<Integer> told = sets.get(clock);
        return what == 0 ? told.size() : told.isEmpty() ? NOT : told.get(told.size() - 1);
    }

    int judge(int shelf) {
        if (shelf < 0 || shelf > 5) return BAD;
        if (shelves[shelf] == null) return -11;
        if (!(shelves[shelf] instanceof short[])) return -12;
        short[] book = (short[]) shelves[shelf];
        for (int i = 0; i < book.length; i += 3) {
            if (i + 3 > book.length || shown(book[i], book[i + 1], 1) == BAD
                || shown(book[i], book[i + 1], 1) != book[i + 2]) {
                return i / 3;
            }
        }
        return NOT;
    }

    int image() {
        image = Map.of("off", off.clone(), "sights", new ArrayList<>(sights), "guns", new ArrayList<>(guns), "sets",
            List.of(new ArrayList<>(sets.get(0)), new ArrayList<>(sets.get(1))));
        return sights.size();
    }

    @SuppressWarnings("unchecked")
    int back() {
        if (image == null) return STATE;
        System.arraycopy((int[]) image.get("off"), 0, off, 0, 2);
        sights = new ArrayList<>((List<int[]>) image.get("sights"));
        guns = new ArrayList<>((List<int[]>) image.get("guns"));
        List<List<Integer>> told = (List<List<Integer>>) image.get("sets");
        sets = List.of(new ArrayList<>(told.get(0)), new ArrayList<>(told.get(1)));
        return sights.size();
    }

    int undo() {
        if (done.isEmpty()) return STATE;
        int[] change = done.remove(done.size() - 1);
        amounts(change[0], change[1])[index(change[0], change[1])] = change[2];
        undone.push(change);
        return done.size();
    }

    int redo() {
        if (undone.isEmpty()) return STATE;
        int[] change = undone.pop();
        amounts(change[0], change[1])[index(change[0], change[1])] = change[3];
        done.add(change);
        return undone.size();
    }

    // ---- acts, shelves

    private interface Shows {
        int n();
        void ran(int number);
        default int shows(int x) { ran(1); return x + n(); }
    }

    private interface Tells {
        int parts(int x);
        int walks(int x);
        void ran(int number);
        default int tells(int x) { ran(2); return parts(x) - walks(1); }
    }

    private class Hand implements Shows, Tells {
        final int n = bodies.size();
        public int n() { return n; }
        public void ran(int number) { trace.add(number); }
        public int parts(int x) { ran(10); return shows(x) * 2; }
        public int walks(int x) { ran(11); return x ^ n; }
    }

    private class Hour extends Hand {
        public int shows(int x) { ran(20); return super.shows(x) + 3; }
    }

    private class Hill extends Hand {
        public int parts(int x) { ran(30); return -super.parts(x); }
    }

    private class Fog extends Hill {
        public int walks(int x) { ran(40); return super.walks(x) * 3; }
        public int parts(int x) { ran(41); return super.parts(x + 1); }
    }

    private class Noon extends Hour {
        public int tells(int x) { ran(50); return super.tells(x) ^ 5; }
    }

    private class Late extends Fog {
        public int walks(int x) { ran(60); return super.walks(x) - shows(2); }
        public int tells(int x) { ran(61); return super.tells(x) + 1; }
    }

    private class Boy extends Hand {
        public int shows(int x) { ran(70); return super.shows(x) * 2; }
    }

    private class Lover extends Boy {
        public int parts(int x) { ran(80); return super.parts(x) + walks(2); }
        public int shows(int x) { ran(81); return super.shows(x) - 1; }
    }

    private static final List<Class<?>> KINDS = List.of(Hand.class, Hour.class, Hill.class, Fog.class, Noon.class,
        Late.class, Boy.class, Lover.class);

    int body(int kind) {
        if (kind < 0 || kind > 7) return BAD;
        if (bodies.size() == 50) return FULL;
        switch (kind) {
            case 0: bodies.add(new Hand()); break;
            case 1: bodies.add(new Hour()); break;
            case 2: bodies.add(new Hill()); break;
            case 3: bodies.add(new Fog()); break;
            case 4: bodies.add(new Noon()); break;
            case 5: bodies.add(new Late()); break;
            case 6: bodies.add(new Boy()); break;
            default: bodies.add(new Lover()); break;
        }
        return bodies.size() - 1;
    }

    int act(int body, int act, int x) {
        trace = new ArrayList<>();
        if (body < 0 || body >= bodies.size()) return 0;
        Hand hand = bodies.get(body);
        switch (act) {
            case 0: return hand.shows(x);
            case 1: return hand.parts(x);
            case 2: return hand.walks(x);
            case 3: return hand.tells(x);
            default: return 0;
        }
    }

    int trace(int i) {
        return i < 0 || i >= 24 || i >= trace.size() ? BAD : trace.get(i);
    }

    int keep(int shelf, int body) {
        if (shelf < 0 || shelf > 5 || body < -1 || body >= bodies.size()) return BAD;
        shelves[shelf] = body == -1 ? null : bodies.get(body);
        return 1;
    }

    int row(int shelf, int sort, int n) {
        if (shelf < 0 || shelf > 5 || sort < 0 || sort > 4 || n > 60) return BAD;
        if (n < 0) return -14;
        Object[] rows = {new byte[n], new short[n], new int[n], new long[n], new boolean[n]};
        shelves[shelf] = rows[sort];
        return 1;
    }

    private int refusal(int shelf) {
        if (shelf < 0 || shelf > 5) return BAD;
        if (shelves[shelf] == null) return -11;
        return shelves[shelf] instanceof Hand ? -12 : 0;
    }

    int put(int shelf, int i, long v) {
        if (refusal(shelf) != 0) return refusal(shelf);
        Object row = shelves[shelf];
        try {
            if (row instanceof byte[]) ((byte[]) row)[i] = (byte) v;
            else if (row instanceof short[]) ((short[]) row)[i] = (short) v;
            else if (row instanceof int[]) ((int[]) row)[i] = (int) v;
            else if (row instanceof long[]) ((long[]) row)[i] = v;
            else ((boolean[]) row)[i] = v != 0;
            return 1;
        } catch (ArrayIndexOutOfBoundsException none) {
            return -13;
        }
    }

    long element(int shelf, int i) {
        if (refusal(shelf) != 0) return Long.MIN_VALUE;
        try {
            Object v = java.lang.reflect.Array.get(shelves[shelf], i);
            return v instanceof Boolean ? ((Boolean) v ? 1 : 0) : ((Number) v).longValue();
        } catch (ArrayIndexOutOfBoundsException none) {
            return Long.MIN_VALUE;
        }
    }

    int shift(int shelf, int i, int other, int j, int n) {
        int one = refusal(shelf), two = refusal(other);
        for (int refusal : new int[] {BAD, -11, -12}) {
            if (one == refusal || two == refusal) return refusal;
        }
        try {
            System.arraycopy(shelves[shelf], i, shelves[other], j, n);
            return n;
        } catch (ArrayStoreException unlike) {
            return -12;
        } catch (IndexOutOfBoundsException none) {
            return -13;
        }
    }

    int taken(int shelf, int k) {
        if (shelf < 0 || shelf > 5 || k < 0 || k > 7) return BAD;
        if (shelves[shelf] == null) return -11;
        return KINDS.get(k).isInstance(shelves[shelf]) ? KINDS.indexOf(shelves[shelf].getClass()) : -12;
    }

    int count(int what) {
        int[] counts = {sights.size(), guns.size(), tape.length(), done.size(), bodies.size(), trace.size()};
        return what < 0 || what >= counts.length ? BAD : counts[what];
    }

    @Override
    public String toString() {
        return Arrays.toString(off) + Arrays.toString(gain) + Arrays.toString(town);
    }
}
