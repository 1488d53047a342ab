/** Two clocks of a town with one hand each; ../shared/DOC.md says what every call answers. */
public final class OneHandEach {
    public static final int BAD = -1, NOT = -2, FULL = -3, STATE = -5, VOID = -2000000000;

    private static final int NOTHING_THERE = -11, OTHER_KIND = -12, NO_PLACE = -13, BELOW_ZERO = -14;
    // The least long, which the library that the program keeps to does not name.
    private static final long NO_ELEMENT = 1L << 63;
    private static final int HALF_DAY = 720, DIAL = 60, LAST_MINUTE = 99999, LAST_WALK = 99;
    private static final int SHELVES = 6;

    private final Town town;
    private final Entries sights;
    private final Entries guns;
    private final Law law;
    private final Fitting fitting;
    private final Guesses guesses;
    private final Changes changes;
    private final Image kept;
    private final Bodies bodies;
    private final Shelf[] shelves;

    public OneHandEach() {
        town = new Town();
        sights = new Entries(8, 4);
        guns = new Entries(10, 3);
        law = new Law();
        fitting = new Fitting();
        guesses = new Guesses();
        changes = new Changes();
        kept = new Image();
        bodies = new Bodies();
        shelves = new Shelf[SHELVES];
        for (int i = 0; i < SHELVES; i++) {
            shelves[i] = new Shelf();
        }
    }

    // ---- clocks

    public int mend(int number, int what, int v) {
        int place = Town.placeOf(number, what);
        if (place < 0 || !town.allows(place, v)) {
            return VOID;
        }
        int was = town.amounts[place];
        changes.add(place, was, v);
        town.amounts[place] = v;
        return was;
    }

    public int of(int number, int what) {
        if (what >= 20) {
            return guns.told(number, what - 20);
        }
        if (what >= 10) {
            return sights.told(number, what - 10);
        }
        int place = Town.placeOf(number, what);
        return place < 0 ? VOID : town.amounts[place];
    }

    public int shown(int clock, int minute, int what) {
        if (!isClock(clock) || !isMinute(minute) || !isOneOf(what, 2)) {
            return BAD;
        }
        return what == 0 ? town.timeAt(clock, minute) : town.partAt(clock, minute);
    }

    public int feed(int letter) {
        return letter < 0 || letter > 255 ? BAD : law.takeByte(letter);
    }

    public int law() {
        int fault = law.readTape();
        return fault < 0 ? 1 : -100 - fault;
    }

    public int weight(int time) {
        return isTime(time) ? weightOf(time) : BAD;
    }

    // ---- sights

    public int sight(int cp, int ft) {
        if (cp < 0 || ft < 0 || !isSight(cp / 100, cp % 100, ft / 100, ft % 100)) {
            return BAD;
        }
        return sights.isFull() ? FULL : sights.add(cp / 100, cp % 100, ft / 100, ft % 100);
    }

    public int sights(int shelf, int i, int n) {
        if (!isShelf(shelf) || n < 1 || n > 8) {
            return BAD;
        }
        Shelf from = shelves[shelf];
        if (from.held == Shelf.NOTHING) {
            return 0;
        }
        if (!from.holdsRow(Shelf.BYTES)) {
            return OTHER_KIND;
        }
        return i < 0 ? 0 : sightsFrom(from, i, n);
    }

    public int forget() {
        if (sights.count == 0) {
            return STATE;
        }
        sights.count--;
        return sights.count;
    }

    public int fits(int k) {
        if (k < -1) {
            return BAD;
        }
        fitting.findAll(town, sights, -1);
        return k < 0 ? fitting.howMany() : fitting.timeOf(k);
    }

    public int chance(int ab, int part) {
        if (ab < 0 || !isOneOf(part, 2)) {
            return BAD;
        }
        int first = ab / 1000;
        int last = ab % 1000;
        if (!isTime(last) || first > last) {
            return BAD;
        }
        fitting.findAll(town, sights, -1);
        int there = weightOfFits(first, last);
        int all = weightOfFits(0, HALF_DAY - 1);
        if (all <= 0) {
            return part == 0 ? 0 : 1;
        }
        int measure = commonMeasure(there, all);
        return (part == 0 ? there : all) / (measure > 0 ? measure : 1);
    }

    public int likely() {
        fitting.findAll(town, sights, -1);
        int best = NOT;
        int greatest = -1;
        for (int time = 0; time < HALF_DAY; time++) {
            if (fitting.fit[time]) {
                int weight = weightOf(time);
                if (weight > greatest) {
                    greatest = weight;
                    best = time;
                }
            }
        }
        return best;
    }

    public int tells(int sight) {
        if (!isOneOf(sight, sights.count)) {
            return BAD;
        }
        fitting.findAll(town, sights, -1);
        int with = fitting.howMany();
        fitting.findAll(town, sights, sight);
        return fitting.howMany() - with;
    }

    public int next(int d, int what) {
        if (d < 0 || d > LAST_WALK || !isOneOf(what, 2)) {
            return BAD;
        }
        fitting.findAll(town, sights, -1);
        if (fitting.howMany() == 0) {
            return NOT;
        }
        int ofHours = fitting.mostAlike(town, 0, d);
        int ofOther = fitting.mostAlike(town, 1, d);
        int clock = ofOther < ofHours ? 1 : 0;
        return what == 0 ? clock : Math.min(ofHours, ofOther);
    }

    public int lot(int seed, int n, int what) {
        if (n < 1 || n > 20 || !isOneOf(what, 2)) {
            return BAD;
        }
        int together = 0;
        int single = 0;
        int z = seed;
        for (int i = 0; i < n; i++) {
            z = drawn(z);
            int time = (z >>> 8) % HALF_DAY;
            z = drawn(z);
            int fit = fitting.fitsOfWalker(town, time, town.walkOf(z >>> 8));
            together += fit;
            single += fit == 1 ? 1 : 0;
        }
        return what == 0 ? together : single;
    }

    // ---- guns, meetings

    public int gun(int cd, int part) {
        if (cd < 0 || !isClock(cd / 100) || cd % 100 > 40 || !isPart(part)) {
            return BAD;
        }
        return guns.isFull() ? FULL : guns.add(cd / 100, cd % 100, part, 0);
    }

    public int guess(int clock, int what) {
        if (!isClock(clock) || !isOneOf(what, 7)) {
            return VOID;
        }
        guesses.find(town, guns, clock);
        return what > 0 && guesses.told[0] == 0 ? NOT : guesses.told[what];
    }

    public int liars(int clock) {
        return isClock(clock) ? Guesses.fewestWrong(town, guns, clock) : BAD;
    }

    public int agree(int a, int b, int what) {
        if (!isMinute(a) || !isMinute(b) || b < a || b > a + 1440 || !isOneOf(what, 2)) {
            return BAD;
        }
        int first = NOT;
        int alike = 0;
        for (int minute = a; minute <= b; minute++) {
            if (town.timeAt(0, minute) == town.timeAt(1, minute)) {
                first = alike == 0 ? minute : first;
                alike++;
            }
        }
        return what == 0 ? alike : first;
    }

    public int meet(int t, int pq, int what) {
        if (!isMinute(t) || pq < 0 || !isPart(pq / 100) || !isPart(pq % 100) || !isOneOf(what, 3)) {
            return BAD;
        }
        int ofHours = town.firstMinute(0, t, pq / 100);
        int ofOther = town.firstMinute(1, t, pq % 100);
        if (ofHours < 0 || ofOther < 0) {
            return NOT;
        }
        if (what == 2) {
            return Math.abs(ofHours - ofOther);
        }
        return what == 0 ? ofHours : ofOther;
    }

    public int round(int clock, int x) {
        if (!isClock(clock) || x < 0 || x > 60) {
            return BAD;
        }
        int gain = town.gain(clock);
        for (int k = 1; k <= HALF_DAY; k++) {
            if (Math.abs(k * gain / 100) > x) {
                return k - 1;
            }
        }
        return HALF_DAY;
    }

    public int set(int clock, int minute) {
        if (!isClock(clock) || !isMinute(minute)) {
            return VOID;
        }
        int off = town.offToShow(clock, minute, town.timeAt(1 - clock, minute));
        town.amounts[Town.OFF + clock] = off;
        town.timesSet[clock]++;
        town.latestSet[clock] = minute;
        return off;
    }

    public int led(int clock, int what) {
        if (!isClock(clock) || !isOneOf(what, 2)) {
            return BAD;
        }
        if (what == 0) {
            return town.timesSet[clock];
        }
        return town.timesSet[clock] == 0 ? NOT : town.latestSet[clock];
    }

    public int judge(int shelf) {
        int refusal = refusalOfRow(shelf);
        if (refusal != 0) {
            return refusal;
        }
        Shelf book = shelves[shelf];
        if (!book.holdsRow(Shelf.SHORTS)) {
            return OTHER_KIND;
        }
        for (int three = 0; 3 * three < book.length; three++) {
            if (!isSo(book, 3 * three)) {
                return three;
            }
        }
        return NOT;
    }

    public int image() {
        kept.there = true;
        kept.sights.become(sights);
        kept.guns.become(guns);
        for (int clock = 0; clock < 2; clock++) {
            kept.off[clock] = town.off(clock);
            kept.timesSet[clock] = town.timesSet[clock];
            kept.latestSet[clock] = town.latestSet[clock];
        }
        return sights.count;
    }

    public int back() {
        if (!kept.there) {
            return STATE;
        }
        sights.become(kept.sights);
        guns.become(kept.guns);
        for (int clock = 0; clock < 2; clock++) {
            town.amounts[Town.OFF + clock] = kept.off[clock];
            town.timesSet[clock] = kept.timesSet[clock];
            town.latestSet[clock] = kept.latestSet[clock];
        }
        return sights.count;
    }

    public int undo() {
        return changes.undoIn(town);
    }

    public int redo() {
        return changes.redoIn(town);
    }

    // ---- acts, shelves

    public int body(int kind) {
        return isKind(kind) ? bodies.add(kind) : BAD;
    }

    public int act(int body, int act, int x) {
        return bodies.actOf(body, act, x);
    }

    public int trace(int i) {
        return isOneOf(i, Math.min(bodies.ran, Bodies.TRACED)) ? bodies.traced[i] : BAD;
    }

    public int keep(int shelf, int body) {
        if (!isShelf(shelf) || body < -1 || body >= bodies.count) {
            return BAD;
        }
        Shelf here = shelves[shelf];
        here.held = body < 0 ? Shelf.NOTHING : Shelf.BODY;
        here.body = body;
        return 1;
    }

    public int row(int shelf, int sort, int n) {
        if (!isShelf(shelf) || !isOneOf(sort, 5) || n > Shelf.LONGEST) {
            return BAD;
        }
        if (n < 0) {
            return BELOW_ZERO;
        }
        shelves[shelf].becomeRow(sort, n);
        return 1;
    }

    public int put(int shelf, int i, long v) {
        int refusal = refusalOfPlace(shelf, i);
        if (refusal != 0) {
            return refusal;
        }
        shelves[shelf].elements[i] = shelves[shelf].keptOf(v);
        return 1;
    }

    public long element(int shelf, int i) {
        return refusalOfPlace(shelf, i) != 0 ? NO_ELEMENT : shelves[shelf].elements[i];
    }

    public int shift(int shelf, int i, int other, int j, int n) {
        if (!isShelf(shelf) || !isShelf(other)) {
            return BAD;
        }
        Shelf from = shelves[shelf];
        Shelf to = shelves[other];
        if (from.held == Shelf.NOTHING || to.held == Shelf.NOTHING) {
            return NOTHING_THERE;
        }
        if (from.held != Shelf.ROW || !to.holdsRow(from.sort)) {
            return OTHER_KIND;
        }
        // i + n may be beyond an int: so n is taken from the lengths.
        if (n < 0 || i < 0 || j < 0 || i > from.length - n || j > to.length - n) {
            return NO_PLACE;
        }
        System.arraycopy(from.elements, i, to.elements, j, n);
        return n;
    }

    public int taken(int shelf, int k) {
        if (!isShelf(shelf) || !isKind(k)) {
            return BAD;
        }
        Shelf here = shelves[shelf];
        if (here.held == Shelf.NOTHING) {
            return NOTHING_THERE;
        }
        if (here.held != Shelf.BODY) {
            return OTHER_KIND;
        }
        int kind = bodies.kindOf(here.body);
        return Bodies.isUnder(kind, k) ? kind : OTHER_KIND;
    }

    public int count(int what) {
        switch (what) {
            case 0:
                return sights.count;
            case 1:
                return guns.count;
            case 2:
                return law.bytesOnTape();
            case 3:
                return changes.done;
            case 4:
                return bodies.count;
            case 5:
                return bodies.ran;
            default:
                return BAD;
        }
    }

    // ---- what the calls above share

    private static boolean isOneOf(int number, int howMany) {
        return number >= 0 && number < howMany;
    }

    private static boolean isClock(int clock) {
        return clock == 0 || clock == 1;
    }

    private static boolean isMinute(int minute) {
        return minute >= 0 && minute <= LAST_MINUTE;
    }

    private static boolean isTime(int time) {
        return isOneOf(time, HALF_DAY);
    }

    private static boolean isPart(int part) {
        return isOneOf(part, DIAL);
    }

    private static boolean isShelf(int shelf) {
        return isOneOf(shelf, SHELVES);
    }

    private static boolean isKind(int kind) {
        return isOneOf(kind, Bodies.KINDS);
    }

    private static boolean isSight(int clock, int part, int from, int to) {
        return isClock(clock) && isPart(part) && from >= 0 && from <= to && to <= LAST_WALK;
    }

    private static int drawn(int z) {
        return z * 1103515245 + 12345;
    }

    private static int commonMeasure(int one, int other) {
        int a = one;
        int b = other;
        for (int i = 0; i < 64 && b != 0; i++) {
            int left = a % b;
            a = b;
            b = left;
        }
        return a;
    }

    private int weightOf(int time) {
        return law.weightOf(time, sights.count, town.err());
    }

    private int weightOfFits(int first, int last) {
        int sum = 0;
        for (int time = first; time <= last && time < HALF_DAY; time++) {
            sum += fitting.fit[time] ? weightOf(time) : 0;
        }
        return sum;
    }

    private int sightsFrom(Shelf row, int start, int n) {
        int at = start;
        for (int came = 0; came < n; came++) {
            if (at > row.length - 4 || sights.isFull()) {
                return came;
            }
            int clock = (int) row.elements[at];
            int part = (int) row.elements[at + 1];
            int from = (int) row.elements[at + 2];
            int to = (int) row.elements[at + 3];
            if (!isSight(clock, part, from, to)) {
                return came;
            }
            sights.add(clock, part, from, to);
            at += 4;
        }
        return n;
    }

    /** Whether the three of a book that begins at a place tells what its clock shows. */
    private boolean isSo(Shelf book, int at) {
        if (at < 0 || at > book.length - 3) {
            return false;
        }
        int clock = (int) book.elements[at];
        int minute = (int) book.elements[at + 1];
        return isClock(clock) && minute >= 0 && town.partAt(clock, minute) == book.elements[at + 2];
    }

    /** BAD, -11 or -12 of a shelf that is to hold a row; 0 if it does. */
    private int refusalOfRow(int shelf) {
        if (!isShelf(shelf)) {
            return BAD;
        }
        int held = shelves[shelf].held;
        if (held == Shelf.NOTHING) {
            return NOTHING_THERE;
        }
        return held == Shelf.ROW ? 0 : OTHER_KIND;
    }

    /** The refusals of a row, and -13 for a place that it lacks; 0 if the place is there. */
    private int refusalOfPlace(int shelf, int i) {
        int refusal = refusalOfRow(shelf);
        if (refusal != 0) {
            return refusal;
        }
        return isOneOf(i, shelves[shelf].length) ? 0 : NO_PLACE;
    }

    // ---- classes inside

    /** The amounts that can be mended, and when the clocks were set. */
    private static final class Town {
        // Where the amounts of both clocks begin in the row, then those of the town itself.
        static final int OFF = 0, GAIN = 2, ERR = 4, W0 = 5, W1 = 6;

        final int[] amounts;
        final int[] timesSet;
        final int[] latestSet;

        Town() {
            amounts = new int[7];
            amounts[W0] = 10;
            amounts[W1] = 20;
            timesSet = new int[2];
            latestSet = new int[2];
        }

        static int placeOf(int number, int what) {
            if (what == 0 || what == 1) {
                return isClock(number) ? (what == 0 ? OFF : GAIN) + number : -1;
            }
            return number == 0 && what >= 2 && what <= 4 ? ERR + what - 2 : -1;
        }

        boolean allows(int place, int v) {
            switch (place) {
                case OFF:
                case OFF + 1:
                    return v >= -360 && v <= 359;
                case GAIN:
                case GAIN + 1:
                    return v >= -9 && v <= 9;
                case ERR:
                    return v >= 0 && v <= 9;
                case W0:
                    return v >= 0 && v <= amounts[W1];
                case W1:
                    return v >= amounts[W0] && v <= LAST_WALK;
                default:
                    return false;
            }
        }

        int off(int clock) {
            return isClock(clock) ? amounts[OFF + clock] : 0;
        }

        int gain(int clock) {
            return isClock(clock) ? amounts[GAIN + clock] : 0;
        }

        int err() {
            return amounts[ERR];
        }

        static int timeBy(int off, int gain, int minute) {
            return Math.floorMod(minute + off + minute * gain / 100, HALF_DAY);
        }

        static int partOf(int clock, int time) {
            return clock == 0 ? time / 12 : time % DIAL;
        }

        int timeAt(int clock, int minute) {
            return timeBy(off(clock), gain(clock), minute);
        }

        int partAt(int clock, int minute) {
            return partOf(clock, timeAt(clock, minute));
        }

        boolean isNear(int part, int other) {
            int apart = Math.abs(part - other);
            return Math.min(apart, DIAL - apart) <= amounts[ERR];
        }

        /** The OFF by which a clock shows a time at a minute. */
        int offToShow(int clock, int minute, int time) {
            int ahead = time - timeBy(0, gain(clock), minute);
            return Math.floorMod(ahead + 360, HALF_DAY) - 360;
        }

        int firstMinute(int clock, int t, int part) {
            for (int minute = t; minute < t + 1440; minute++) {
                if (partAt(clock, minute) == part) {
                    return minute;
                }
            }
            return -1;
        }

        int walkOf(int draw) {
            int walks = amounts[W1] - amounts[W0] + 1;
            return amounts[W0] + (walks > 0 ? draw % walks : 0);
        }
    }

    /** Entries of so many numbers each, as they come: the sights, and the guns. */
    private static final class Entries {
        final int most;
        final int width;
        final int[] numbers;
        int count;

        Entries(int most, int width) {
            this.most = most;
            this.width = width;
            numbers = new int[most * width];
        }

        boolean isFull() {
            return count >= most;
        }

        /** Keeps as many of the four as an entry has; the caller has seen that there is room. */
        int add(int first, int second, int third, int fourth) {
            if (isFull()) {
                return FULL;
            }
            lay(0, first);
            lay(1, second);
            lay(2, third);
            lay(3, fourth);
            count++;
            return count - 1;
        }

        private void lay(int which, int v) {
            if (which < width && count < most) {
                numbers[count * width + which] = v;
            }
        }

        int told(int number, int which) {
            return isOneOf(number, count) && isOneOf(which, width) ? numbers[number * width + which] : VOID;
        }

        void become(Entries other) {
            if (other.numbers.length == numbers.length) {
                System.arraycopy(other.numbers, 0, numbers, 0, numbers.length);
                count = other.count;
            }
        }
    }

    /** Which times of the half day fit. */
    private static final class Fitting {
        final boolean[] fit;
        // How many minutes ahead of each one of the longest walk have the part that is looked for.
        private final int[] nearAhead;
        private final int[] tally;

        Fitting() {
            fit = new boolean[HALF_DAY];
            nearAhead = new int[HALF_DAY + LAST_WALK + 1];
            tally = new int[DIAL];
        }

        void findAll(Town town, Entries sights, int without) {
            startAnew();
            for (int i = 0; i < sights.count; i++) {
                if (i != without) {
                    strike(town, sights.told(i, 0), sights.told(i, 1), sights.told(i, 2), sights.told(i, 3));
                }
            }
        }

        int fitsOfWalker(Town town, int time, int walk) {
            startAnew();
            strike(town, 0, town.partAt(0, time), 0, 0);
            strike(town, 1, town.partAt(1, time + walk), town.amounts[Town.W0], town.amounts[Town.W1]);
            return howMany();
        }

        private void startAnew() {
            for (int time = 0; time < HALF_DAY; time++) {
                fit[time] = true;
            }
        }

        private void strike(Town town, int clock, int part, int from, int to) {
            if (!isSight(clock, part, from, to)) {
                return;
            }
            nearAhead[0] = 0;
            for (int minute = 0; minute < nearAhead.length - 1; minute++) {
                int near = town.isNear(town.partAt(clock, minute), part) ? 1 : 0;
                nearAhead[minute + 1] = nearAhead[minute] + near;
            }
            for (int time = 0; time < HALF_DAY; time++) {
                if (nearAhead[time + to + 1] == nearAhead[time + from]) {
                    fit[time] = false;
                }
            }
        }

        int howMany() {
            int many = 0;
            for (int time = 0; time < HALF_DAY; time++) {
                many += fit[time] ? 1 : 0;
            }
            return many;
        }

        int timeOf(int k) {
            int ahead = 0;
            for (int time = 0; time < HALF_DAY; time++) {
                if (fit[time]) {
                    if (ahead == k) {
                        return time;
                    }
                    ahead++;
                }
            }
            return NOT;
        }

        /** How many of the times that fit have the part, d minutes behind, that most of them have. */
        int mostAlike(Town town, int clock, int d) {
            for (int part = 0; part < DIAL; part++) {
                tally[part] = 0;
            }
            int most = 0;
            for (int time = 0; time < HALF_DAY; time++) {
                int part = town.partAt(clock, time + d);
                if (fit[time] && isPart(part)) {
                    tally[part]++;
                    most = Math.max(most, tally[part]);
                }
            }
            return most;
        }
    }

    /** By which amounts a clock can be wrong, as its guns tell. */
    private static final class Guesses {
        private static final int FARTHEST_OFF = 30, GREATEST_GAIN = 9;

        // How many; OFF and GAIN of the first; the least and the greatest OFF, then GAIN.
        final int[] told;

        Guesses() {
            told = new int[7];
        }

        void find(Town town, Entries guns, int clock) {
            told[0] = 0;
            for (int off = -FARTHEST_OFF; off <= FARTHEST_OFF; off++) {
                for (int gain = -GREATEST_GAIN; gain <= GREATEST_GAIN; gain++) {
                    if (wrongBy(town, guns, clock, off, gain) == 0) {
                        note(off, gain);
                    }
                }
            }
        }

        private void note(int off, int gain) {
            boolean first = told[0] == 0;
            told[0]++;
            if (first) {
                told[1] = off;
                told[2] = gain;
            }
            told[3] = first ? off : Math.min(told[3], off);
            told[4] = first ? off : Math.max(told[4], off);
            told[5] = first ? gain : Math.min(told[5], gain);
            told[6] = first ? gain : Math.max(told[6], gain);
        }

        /** The fewest guns that one guess contradicts; of like ones the least as bits. */
        static int fewestWrong(Town town, Entries guns, int clock) {
            int best = wrongBy(town, guns, clock, 0, 0);
            for (int off = -FARTHEST_OFF; off <= FARTHEST_OFF; off++) {
                for (int gain = -GREATEST_GAIN; gain <= GREATEST_GAIN; gain++) {
                    int wrong = wrongBy(town, guns, clock, off, gain);
                    int more = Integer.bitCount(wrong) - Integer.bitCount(best);
                    if (more < 0 || more == 0 && wrong < best) {
                        best = wrong;
                    }
                }
            }
            return best;
        }

        /** The guns of a clock, as bits, whose parts are not near what it would show. */
        private static int wrongBy(Town town, Entries guns, int clock, int off, int gain) {
            int wrong = 0;
            for (int i = 0; i < guns.count; i++) {
                if (guns.told(i, 0) == clock) {
                    int time = Town.timeBy(off, gain, guns.told(i, 1) * HALF_DAY);
                    if (!town.isNear(Town.partOf(clock, time), guns.told(i, 2))) {
                        wrong |= 1 << i;
                    }
                }
            }
            return wrong;
        }
    }

    /** The changes of amounts: those done, and behind them those undone. */
    private static final class Changes {
        private static final int MOST = 40;

        private final int[] places;
        private final int[] was;
        private final int[] became;
        int done;
        private int known;

        Changes() {
            places = new int[MOST];
            was = new int[MOST];
            became = new int[MOST];
        }

        /** An amount that stays what it was is no change: nothing is kept, and what was undone can be done again. */
        void add(int place, int before, int after) {
            if (before == after) {
                return;
            }
            if (done >= MOST) {
                dropEldest();
            }
            if (done < MOST) {
                places[done] = place;
                was[done] = before;
                became[done] = after;
                done++;
            }
            known = done;
        }

        private void dropEldest() {
            for (int i = 1; i < MOST; i++) {
                places[i - 1] = places[i];
                was[i - 1] = was[i];
                became[i - 1] = became[i];
            }
            done = MOST - 1;
        }

        int undoIn(Town town) {
            if (done <= 0) {
                return STATE;
            }
            done--;
            town.amounts[places[done]] = was[done];
            return done;
        }

        int redoIn(Town town) {
            if (done >= known) {
                return STATE;
            }
            town.amounts[places[done]] = became[done];
            done++;
            return known - done;
        }
    }

    /** What an image keeps. */
    private static final class Image {
        final Entries sights;
        final Entries guns;
        final int[] off;
        final int[] timesSet;
        final int[] latestSet;
        boolean there;

        Image() {
            sights = new Entries(8, 4);
            guns = new Entries(10, 3);
            off = new int[2];
            timesSet = new int[2];
            latestSet = new int[2];
        }
    }

    /** A law in the order in which it is worked out: operands ahead of what is done with them. */
    private static final class Program {
        static final int NUMBER = 'n', NEGATED = '~';
        // One step for each byte of a text at most, and one for the end of its latest line.
        static final int MOST = 121;

        final int[] steps;
        final int[] values;
        int length;

        Program() {
            steps = new int[MOST];
            values = new int[MOST];
        }

        void add(int step, int value) {
            if (length < MOST) {
                steps[length] = step;
                values[length] = value;
                length++;
            }
        }
    }

    /** The tape: reads its text into a program, or finds the first byte with which no text goes on. */
    private static final class Reader {
        private static final int LONGEST = 120, MOST_OPEN = 6, MOST_DIGITS = 4, RANKS = 5, COMPARING = 2;

        private final int[] tape;
        private int length;
        private int at;
        private int fault;
        Program into;

        Reader() {
            tape = new int[LONGEST];
            into = new Program();
        }

        int takeByte(int letter) {
            if (length >= LONGEST) {
                return FULL;
            }
            tape[length] = letter;
            length++;
            return length;
        }

        /** Reads the tape and empties it: the fault, or -1. */
        int read() {
            at = 0;
            fault = -1;
            into.length = 0;
            line();
            for (int i = 0; i < length && takes(';'); i++) {
                line();
            }
            if (fault < 0 && at < length) {
                fault = at;
            }
            length = 0;
            return fault;
        }

        private int here() {
            return fault < 0 && at < length ? tape[at] : -1;
        }

        private boolean takes(int letter) {
            if (here() != letter) {
                return false;
            }
            at++;
            return true;
        }

        private void line() {
            joined(0, 0);
            if (takes('?')) {
                into.add('?', 0);
                joined(0, 0);
            }
            into.add(';', 0);
        }

        /** What is joined by signs of a rank: operands of the next, tighter one. */
        private void joined(int rank, int open) {
            if (rank >= RANKS) {
                operand(open);
                return;
            }
            joined(rank + 1, open);
            for (int i = 0; i < length && rankOf(here()) == rank; i++) {
                if (rank == COMPARING && i > 0) {
                    return;
                }
                int sign = here();
                at++;
                joined(rank + 1, open);
                into.add(sign, 0);
            }
        }

        private static int rankOf(int sign) {
            switch (sign) {
                case '|':
                    return 0;
                case '&':
                    return 1;
                case '<':
                case '=':
                case '>':
                    return COMPARING;
                case '+':
                case '-':
                    return 3;
                case '*':
                case '/':
                case '%':
                    return 4;
                default:
                    return -1;
            }
        }

        /** open: how many of ( ! - are open around this operand; no text has more than six. */
        private void operand(int open) {
            int letter = here();
            if (letter >= '0' && letter <= '9') {
                number();
            } else if (letter == 't' || letter == 'h' || letter == 'm' || letter == 's' || letter == 'e') {
                at++;
                into.add(letter, 0);
            } else if (letter == '(' && open < MOST_OPEN) {
                at++;
                joined(0, open + 1);
                close();
            } else if ((letter == '!' || letter == '-') && open < MOST_OPEN) {
                at++;
                operand(open + 1);
                into.add(letter == '!' ? '!' : Program.NEGATED, 0);
            } else if (fault < 0) {
                fault = at;
            }
        }

        private void close() {
            if (!takes(')') && fault < 0) {
                fault = at;
            }
        }

        private void number() {
            int value = 0;
            for (int i = 0; i < MOST_DIGITS && here() >= '0' && here() <= '9'; i++) {
                value = value * 10 + here() - '0';
                at++;
            }
            into.add(Program.NUMBER, value);
        }
    }

    /** The law by which times are weighed. */
    private static final class Law {
        private static final int GREATEST_WEIGHT = 99;

        private final int[] stack;
        private final Reader reader;
        private Program valid;
        private boolean there;

        Law() {
            stack = new int[Program.MOST];
            reader = new Reader();
            valid = new Program();
        }

        int takeByte(int letter) {
            return reader.takeByte(letter);
        }

        int bytesOnTape() {
            return reader.length;
        }

        /** Makes the tape the law, if it has no fault, and empties it: the fault, or -1. */
        int readTape() {
            int fault = reader.read();
            if (fault < 0) {
                // The two change places, so that a text with a fault leaves the law as it was.
                Program read = reader.into;
                reader.into = valid;
                valid = read;
                there = true;
            }
            return fault;
        }

        int weightOf(int time, int sights, int err) {
            return there ? Math.max(0, Math.min(GREATEST_WEIGHT, valueOf(time, sights, err))) : 1;
        }

        private int valueOf(int time, int sights, int err) {
            int top = 0;
            boolean passedOver = false;
            for (int i = 0; i < valid.length; i++) {
                int step = valid.steps[i];
                if (passedOver) {
                    passedOver = step != ';';
                } else if (step == ';') {
                    return top > 0 ? stack[top - 1] : 0;
                } else if (step == '?') {
                    top = Math.max(0, top - 1);
                    passedOver = stack[top] == 0;
                } else if (isName(step)) {
                    top = push(top, named(step, time, sights, err));
                } else if (step == Program.NUMBER) {
                    top = push(top, valid.values[i]);
                } else {
                    top = workOut(step, top);
                }
            }
            return 0;
        }

        private static boolean isName(int step) {
            return step == 't' || step == 'h' || step == 'm' || step == 's' || step == 'e';
        }

        private static int named(int name, int time, int sights, int err) {
            switch (name) {
                case 't':
                    return time;
                case 'h':
                    return time / 60;
                case 'm':
                    return time % 60;
                case 's':
                    return sights;
                default:
                    return err;
            }
        }

        private int push(int top, int value) {
            if (top >= stack.length) {
                return top;
            }
            stack[top] = value;
            return top + 1;
        }

        private int workOut(int step, int top) {
            if (top > 0 && (step == '!' || step == Program.NEGATED)) {
                int value = stack[top - 1];
                stack[top - 1] = step != '!' ? -value : value == 0 ? 1 : 0;
                return top;
            }
            if (top < 2) {
                return top;
            }
            stack[top - 2] = joined(step, stack[top - 2], stack[top - 1]);
            return top - 1;
        }

        private static int joined(int step, int left, int right) {
            switch (step) {
                case '|':
                    return left != 0 || right != 0 ? 1 : 0;
                case '&':
                    return left != 0 && right != 0 ? 1 : 0;
                case '<':
                    return left < right ? 1 : 0;
                case '=':
                    return left == right ? 1 : 0;
                case '>':
                    return left > right ? 1 : 0;
                case '+':
                    return left + right;
                case '-':
                    return left - right;
                case '*':
                    return left * right;
                case '/':
                    return right == 0 ? 0 : left / right;
                default:
                    return right == 0 ? 0 : left % right;
            }
        }
    }

    /** The bodies, and what they do. */
    private static final class Bodies {
        static final int KINDS = 8, TRACED = 24;
        private static final int MOST = 50, ACTS = 4, DEEPEST = 40;
        private static final int SHOWS = 0, PARTS = 1, WALKS = 2, TELLS = 3;
        private static final int[] ABOVE = {-1, 0, 0, 2, 1, 3, 0, 6};
        // The bodies of acts that each kind has of its own (0: none), by act; HAND has those of its interfaces.
        private static final int[] OWN = {
            1, 10, 11, 2,
            20, 0, 0, 0,
            0, 30, 0, 0,
            0, 41, 40, 0,
            0, 0, 0, 50,
            0, 0, 60, 61,
            70, 0, 0, 0,
            81, 80, 0, 0};

        private final int[] kinds;
        final int[] traced;
        int count;
        int ran;

        Bodies() {
            kinds = new int[MOST];
            traced = new int[TRACED];
        }

        int add(int kind) {
            if (count >= MOST) {
                return FULL;
            }
            kinds[count] = kind;
            count++;
            return count - 1;
        }

        int kindOf(int body) {
            return isOneOf(body, count) ? kinds[body] : 0;
        }

        static boolean isUnder(int kind, int top) {
            int k = kind;
            for (int i = 0; i < KINDS && isOneOf(k, KINDS) && k != top; i++) {
                k = ABOVE[k];
            }
            return k == top;
        }

        int actOf(int body, int act, int x) {
            ran = 0;
            return isOneOf(body, count) && isOneOf(act, ACTS) ? own(body, act, x, 0) : 0;
        }

        private int own(int body, int act, int x, int depth) {
            return from(kindOf(body), body, act, x, depth);
        }

        /** Runs the body of an act that a kind has, or the next kind above it that has one. */
        private int from(int kind, int body, int act, int x, int depth) {
            int k = kind;
            for (int i = 0; i < KINDS && isOneOf(k, KINDS); i++) {
                int number = OWN[k * ACTS + act];
                if (number != 0) {
                    return depth < DEEPEST ? run(number, ABOVE[k], body, x, depth + 1) : 0;
                }
                k = ABOVE[k];
            }
            return 0;
        }

        private int run(int number, int above, int body, int x, int depth) {
            if (ran < TRACED) {
                traced[ran] = number;
            }
            ran++;
            switch (number) {
                case 1:
                    return x + body;
                case 2:
                    return own(body, PARTS, x, depth) - own(body, WALKS, 1, depth);
                case 10:
                    return own(body, SHOWS, x, depth) * 2;
                case 11:
                    return x ^ body;
                case 20:
                    return from(above, body, SHOWS, x, depth) + 3;
                case 30:
                    return -from(above, body, PARTS, x, depth);
                case 40:
                    return from(above, body, WALKS, x, depth) * 3;
                case 41:
                    return from(above, body, PARTS, x + 1, depth);
                case 50:
                    return from(above, body, TELLS, x, depth) ^ 5;
                case 60:
                    return from(above, body, WALKS, x, depth) - own(body, SHOWS, 2, depth);
                case 61:
                    return from(above, body, TELLS, x, depth) + 1;
                case 70:
                    return from(above, body, SHOWS, x, depth) * 2;
                case 80:
                    return from(above, body, PARTS, x, depth) + own(body, WALKS, 2, depth);
                case 81:
                    return from(above, body, SHOWS, x, depth) - 1;
                default:
                    return 0;
            }
        }
    }

    /** A shelf: nothing, a body, or a row. */
    private static final class Shelf {
        static final int NOTHING = 0, BODY = 1, ROW = 2;
        static final int BYTES = 0, SHORTS = 1, INTS = 2, LONGS = 3;
        static final int LONGEST = 60;

        final long[] elements;
        int held;
        int body;
        int sort;
        int length;

        Shelf() {
            elements = new long[LONGEST];
        }

        boolean holdsRow(int wanted) {
            return held == ROW && sort == wanted;
        }

        void becomeRow(int newSort, int n) {
            held = ROW;
            sort = newSort;
            length = n;
            for (int i = 0; i < LONGEST; i++) {
                elements[i] = 0;
            }
        }

        /** What the row keeps of a value that is put in. */
        long keptOf(long v) {
            switch (sort) {
                case BYTES:
                    return (byte) v;
                case SHORTS:
                    return (short) v;
                case INTS:
                    return (int) v;
                case LONGS:
                    return v;
                default:
                    return v != 0 ? 1 : 0;
            }
        }
    }
}
