/** Promises 30 to 39: each bound from both sides, the empty and the full, and where ints wrap. */
public final class ShelvesBoundsTest {
    private static final int BAD = -1, FULL = -3;
    private static final int LEAST = Integer.MIN_VALUE, GREATEST = Integer.MAX_VALUE;
    private static final int[] NO_SHELVES = {-1, 6, 7, LEAST, GREATEST};
    private static final long NONE = Long.MIN_VALUE;
    private static OneHandEach x;

    public static void main(String[] args) {
        Runnable[] promises = {ShelvesBoundsTest::body, ShelvesBoundsTest::act, ShelvesBoundsTest::trace,
            ShelvesBoundsTest::keep, ShelvesBoundsTest::row, ShelvesBoundsTest::put, ShelvesBoundsTest::element,
            ShelvesBoundsTest::shift, ShelvesBoundsTest::taken, ShelvesBoundsTest::count};
        for (int i = 0; i < promises.length; i++) {
            Due.about("bounds of promise " + (i + 30));
            x = new OneHandEach();
            promises[i].run();
        }
        Due.end();
    }

    private static void due(String call, long want, long got) {
        Due.due(call, want, got);
    }

    // ---- promise 30

    private static void body() {
        for (int kind : new int[] {-1, 8, LEAST, GREATEST}) {
            due("body of kind " + kind, BAD, x.body(kind));
        }
        due("none is kept", 0, x.count(4));
        for (int i = 0; i < 50; i++) {
            due("body", i, x.body(i % 8));
            due("bodies", i + 1, x.count(4));
        }
        due("the fifty-first", FULL, x.body(7));
        due("BAD ahead of FULL", BAD, x.body(8));
        due("BAD ahead of FULL", BAD, x.body(-1));
        due("fifty", 50, x.count(4));
        for (int i = 0; i < 50; i++) {
            x.keep(0, i);
            due("its kind stays", i % 8, x.taken(0, 0));
        }
    }

    // ---- promise 31

    private static void act() {
        due("no bodies", 0, x.act(0, 0, 5));
        due("no bodies", 0, x.act(-1, 0, 5));
        for (int i = 0; i < 50; i++) {
            x.body(0);
        }
        due("n of the first", 5, x.act(0, 0, 5));
        due("n of the last", 54, x.act(49, 0, 5));
        due("n of the last", 5 ^ 49, x.act(49, 2, 5));
        int[][] none = {{50, 0}, {-1, 0}, {LEAST, 0}, {GREATEST, 0}, {0, 4}, {0, -1}, {49, LEAST}, {49, GREATEST}, {50, 4}};
        for (int[] n : none) {
            x.act(0, 3, 1);
            due("ran", 4, x.count(5));
            due("act " + n[0] + " " + n[1], 0, x.act(n[0], n[1], 5));
            due("ran, none", 0, x.count(5));
            due("no trace", BAD, x.trace(0));
        }
        wraps();
        superIsFromTheBodysOwnKind();
    }

    private static void wraps() {
        x = new OneHandEach();
        for (int kind = 0; kind < 8; kind++) {
            x.body(kind);
        }
        int far = 1 << 30;
        int[][] due = {
            {0, 0, GREATEST, GREATEST}, {0, 1, far, LEAST}, {0, 1, LEAST, 0}, {0, 2, LEAST, LEAST}, {0, 3, far, LEAST - 1},
            {1, 0, GREATEST, LEAST + 3}, {1, 0, GREATEST - 3, LEAST}, {1, 0, GREATEST - 4, GREATEST},
            {1, 1, far, LEAST + 8}, {2, 0, GREATEST, LEAST + 1}, {2, 1, far - 2, LEAST}, {2, 1, LEAST - 2, 0},
            {3, 2, far, (far ^ 3) * 3}, {3, 1, GREATEST, -6}, {4, 3, LEAST, (14 - 5) ^ 5},
            {5, 2, GREATEST, (GREATEST ^ 5) * 3 - 7}, {6, 0, far, LEAST + 12}, {6, 0, LEAST, 12}, {7, 0, far, LEAST + 13},
            {7, 0, far - 7, LEAST - 1}, {7, 1, far, 26 + 5}};
        for (int[] d : due) {
            due("act " + d[0] + " " + d[1] + " " + d[2], d[3], x.act(d[0], d[1], d[2]));
        }
    }

    /** Each act of each kind, by hand, with the numbers of the bodies that ran; the body's number is 9, x is 4. */
    private static void superIsFromTheBodysOwnKind() {
        int[][][] due = {
            {{13, 1}, {26, 10, 1}, {13, 11}, {26 - 8, 2, 10, 1, 11}},
            {{16, 20, 1}, {32, 10, 20, 1}, {13, 11}, {32 - 8, 2, 10, 20, 1, 11}},
            {{13, 1}, {-26, 30, 10, 1}, {13, 11}, {-26 - 8, 2, 30, 10, 1, 11}},
            {{13, 1}, {-28, 41, 30, 10, 1}, {39, 40, 11}, {-28 - 24, 2, 41, 30, 10, 1, 40, 11}},
            {{16, 20, 1}, {32, 10, 20, 1}, {13, 11}, {24 ^ 5, 50, 2, 10, 20, 1, 11}},
            {{13, 1}, {-28, 41, 30, 10, 1}, {39 - 11, 60, 40, 11, 1},
                {-28 - (24 - 11) + 1, 61, 2, 41, 30, 10, 1, 60, 40, 11, 1}},
            {{26, 70, 1}, {52, 10, 70, 1}, {13, 11}, {52 - 8, 2, 10, 70, 1, 11}},
            {{25, 81, 70, 1}, {50 + 11, 80, 10, 81, 70, 1, 11}, {13, 11}, {61 - 8, 2, 80, 10, 81, 70, 1, 11, 11}}};
        for (int kind = 0; kind < 8; kind++) {
            x = new OneHandEach();
            for (int i = 0; i < 9; i++) {
                x.body((kind + 1 + i) % 8);
            }
            due("n", 9, x.body(kind));
            for (int act = 0; act < 4; act++) {
                String call = "kind " + kind + " act " + act;
                int[] d = due[kind][act];
                due(call, d[0], x.act(9, act, 4));
                due(call + " ran", d.length - 1, x.count(5));
                for (int i = 1; i < d.length; i++) {
                    due(call + " trace " + (i - 1), d[i], x.trace(i - 1));
                }
                due(call + " no more", BAD, x.trace(d.length - 1));
            }
        }
    }

    // ---- promise 32

    private static void trace() {
        for (int i : new int[] {-1, 0, 1, 23, 24, LEAST, GREATEST}) {
            due("no act yet, trace " + i, BAD, x.trace(i));
        }
        x.body(5);
        x.act(0, 3, 7);
        due("the first", 61, x.trace(0));
        due("the last", 1, x.trace(9));
        for (int i : new int[] {-1, 10, 23, 24, 25, LEAST, GREATEST}) {
            due("trace " + i, BAD, x.trace(i));
        }
        x.act(0, 0, 7);
        due("of the latest act alone", 1, x.trace(0));
        due("of the latest act alone", BAD, x.trace(1));
        due("of the latest act alone", 1, x.count(5));
        x.act(1, 0, 7);
        due("none", BAD, x.trace(0));
    }

    // ---- promise 33

    private static void keep() {
        due("no bodies", BAD, x.keep(0, 0));
        due("nothing, where nothing is", 1, x.keep(5, -1));
        for (int i = 0; i < 50; i++) {
            x.body(i % 8);
        }
        for (int shelf : NO_SHELVES) {
            due("keep on shelf " + shelf, BAD, x.keep(shelf, 0));
            due("keep nothing on shelf " + shelf, BAD, x.keep(shelf, -1));
        }
        for (int shelf = 0; shelf < 6; shelf++) {
            due("the first", 1, x.keep(shelf, 0));
            due("its kind", 0, x.taken(shelf, 0));
            due("the last", 1, x.keep(shelf, 49));
            for (int body : new int[] {50, -2, LEAST, GREATEST}) {
                due("keep " + body, BAD, x.keep(shelf, body));
            }
            due("the last stays", 1, x.taken(shelf, 0));
        }
        due("nothing", 1, x.keep(3, -1));
        due("is there", -11, x.taken(3, 0));
        due("the next shelf's stays", 1, x.taken(4, 0));
        x.row(2, 3, 60);
        due("a body in place of a row", 1, x.keep(2, 3));
        due("is no row", -12, x.put(2, 0, 1));
        x.row(2, 3, 60);
        due("nothing in place of a row", 1, x.keep(2, -1));
        due("is there", -11, x.put(2, 0, 1));
    }

    // ---- promise 34

    private static void row() {
        for (int shelf : NO_SHELVES) {
            due("row on shelf " + shelf, BAD, x.row(shelf, 0, 0));
            due("BAD ahead of -14", BAD, x.row(shelf, 0, -1));
        }
        for (int sort : new int[] {-1, 5, LEAST, GREATEST}) {
            due("row of sort " + sort, BAD, x.row(0, sort, 0));
            due("BAD ahead of -14", BAD, x.row(0, sort, -1));
        }
        for (int sort = 0; sort < 5; sort++) {
            for (int n : new int[] {61, 62, GREATEST}) {
                due("row of " + n, BAD, x.row(0, sort, n));
            }
            for (int n : new int[] {-1, -2, LEAST}) {
                due("row of " + n, -14, x.row(0, sort, n));
            }
            due("nothing is there", -11, x.put(0, 0, 1));
        }
        for (int shelf = 0; shelf < 6; shelf++) {
            due("sixty", 1, x.row(shelf, shelf % 5, 60));
            due("the last place", 1, x.put(shelf, 59, 1));
            due("behind it", -13, x.put(shelf, 60, 1));
            due("none", 1, x.row(shelf, shelf % 5, 0));
            due("no first place", -13, x.put(shelf, 0, 1));
        }
        for (int sort = 0; sort < 5; sort++) {
            x.row(0, 3, 60);
            for (int i = 0; i < 60; i += 7) {
                x.put(0, i, -1 - i);
            }
            due("a shorter one", 1, x.row(0, sort, 1));
            due("anew", 0, x.element(0, 0));
            due("no more than that", NONE, x.element(0, 1));
            due("a longer one", 1, x.row(0, sort, 60));
            for (int i = 0; i < 60; i += 7) {
                due("anew", 0, x.element(0, i));
            }
        }
        x = new OneHandEach();
        x.row(1, 2, 3);
        x.put(1, 2, 77);
        int[][] refused = {{1, 2, -1}, {1, 2, 61}, {1, 5, 3}, {1, -1, 3}};
        for (int[] r : refused) {
            x.row(r[0], r[1], r[2]);
            due("what is refused changes nothing", 77, x.element(1, 2));
        }
    }

    // ---- promise 35

    private static void put() {
        x.body(0);
        for (int shelf : NO_SHELVES) {
            due("put on shelf " + shelf, BAD, x.put(shelf, 0, 1));
            due("BAD ahead of -13", BAD, x.put(shelf, -1, 1));
        }
        due("-11", -11, x.put(0, 0, 1));
        due("-11 ahead of -13", -11, x.put(0, -1, 1));
        x.keep(0, 0);
        due("-12", -12, x.put(0, 0, 1));
        due("-12 ahead of -13", -12, x.put(0, 60, 1));
        for (int sort = 0; sort < 5; sort++) {
            for (int length : new int[] {0, 1, 59, 60}) {
                x.row(0, sort, length);
                due("the last", length > 0 ? 1 : -13, x.put(0, length - 1, 1));
                for (int i : new int[] {-1, length, 60, LEAST, GREATEST}) {
                    due("put at " + i, -13, x.put(0, i, 1));
                }
                due("the last is in it", length > 0 ? 1 : NONE, x.element(0, length - 1));
            }
        }
        lowestBits();
    }

    private static void lowestBits() {
        long big = 1L << 32;
        long[] values = {0, 1, -1, 2, 127, 128, 129, 255, 256, -128, -129, 32767, 32768, 65535, 65536, -32768, -32769, GREATEST,
            GREATEST + 1L, LEAST, LEAST - 1L, big - 1, big, big + 1, -big, Long.MAX_VALUE, Long.MIN_VALUE, Long.MIN_VALUE + 1};
        for (int sort = 0; sort < 5; sort++) {
            x = new OneHandEach();
            x.row(0, sort, 3);
            for (long v : values) {
                int bits = new int[] {8, 16, 32, 64, 1}[sort];
                long kept = sort == 4 ? (v == 0 ? 0 : 1) : v << (64 - bits) >> (64 - bits);
                due("put " + v, 1, x.put(0, 1, v));
                due("kept of " + v + " by sort " + sort, kept, x.element(0, 1));
            }
            due("the place ahead", 0, x.element(0, 0));
            due("the place behind", 0, x.element(0, 2));
        }
    }

    // ---- promise 36

    private static void element() {
        x.body(0);
        for (int shelf : NO_SHELVES) {
            due("element of shelf " + shelf, NONE, x.element(shelf, 0));
        }
        for (int shelf = 0; shelf < 6; shelf++) {
            due("nothing there", NONE, x.element(shelf, 0));
            x.keep(shelf, 0);
            due("a body", NONE, x.element(shelf, 0));
        }
        for (int sort = 0; sort < 5; sort++) {
            x.row(sort, sort, 60);
            x.put(sort, 0, 1);
            x.put(sort, 59, 1);
            due("the first", 1, x.element(sort, 0));
            due("the last", 1, x.element(sort, 59));
            due("at first", 0, x.element(sort, 30));
            for (int i : new int[] {-1, 60, LEAST, GREATEST}) {
                due("element " + i, NONE, x.element(sort, i));
            }
            x.row(sort, sort, 0);
            due("of none", NONE, x.element(sort, 0));
        }
    }

    // ---- promise 37

    private static void shift() {
        for (int shelf : NO_SHELVES) {
            due("shift from " + shelf, BAD, x.shift(shelf, 0, 0, 0, 0));
            due("shift to " + shelf, BAD, x.shift(0, 0, shelf, 0, 0));
            due("BAD ahead of -13", BAD, x.shift(0, 0, shelf, 0, -1));
        }
        x.body(0);
        x.keep(1, 0);
        x.row(2, 2, 5);
        x.row(3, 3, 5);
        int[][] refused = {{0, 2, -11}, {2, 0, -11}, {0, 0, -11}, {0, 1, -11}, {1, 0, -11}, {1, 1, -12}, {1, 2, -12}, {2, 1, -12},
            {2, 3, -12}, {3, 2, -12}};
        for (int[] r : refused) {
            due("shift " + r[0] + " " + r[1], r[2], x.shift(r[0], 0, r[1], 0, 1));
            due("ahead of -13, shift " + r[0] + " " + r[1], r[2], x.shift(r[0], -1, r[1], 0, -1));
        }
        for (int a = 0; a < 5; a++) {
            for (int b = 0; b < 5; b++) {
                x.row(4, a, 2);
                x.row(5, b, 2);
                due("sorts " + a + " " + b, a == b ? 2 : -12, x.shift(4, 0, 5, 0, 2));
            }
        }
        places();
        overlaps();
    }

    private static void places() {
        int[] ends = {LEAST, -1, 0, 1, 2, 3, 4, 5, 6, GREATEST};
        int[] sizes = {LEAST, -1, 0, 1, 3, 5, GREATEST};
        for (int i : ends) {
            for (int n : sizes) {
                x = new OneHandEach();
                Steps.lay(x, 0, 2, 1, 2, 3, 4, 5);
                Steps.lay(x, 1, 2, 6, 7, 8);
                boolean fromThere = i >= 0 && n >= 0 && (long) i + n <= 5;
                boolean toThere = i >= 0 && n >= 0 && (long) i + n <= 3;
                due("shift from " + i + " of " + n, fromThere && n <= 3 ? n : -13, x.shift(0, i, 1, 0, n));
                due("first of them", fromThere && n > 0 && n <= 3 ? i + 1 : 6, x.element(1, 0));
                Steps.lay(x, 1, 2, 6, 7, 8);
                due("shift to " + i + " of " + n, toThere ? n : -13, x.shift(0, 0, 1, i, n));
                for (int k = 0; k < 3; k++) {
                    boolean came = toThere && k >= i && k < i + n;
                    due("then at " + k, came ? k - i + 1 : 6 + k, x.element(1, k));
                }
            }
        }
        x.row(2, 4, 60);
        x.row(3, 4, 60);
        x.put(2, 59, 1);
        due("sixty", 60, x.shift(2, 0, 3, 0, 60));
        due("the last of them", 1, x.element(3, 59));
        due("sixty-one", -13, x.shift(2, 0, 3, 0, 61));
        x.row(2, 4, 0);
        due("none of none", 0, x.shift(2, 0, 2, 0, 0));
        due("one of none", -13, x.shift(2, 0, 2, 0, 1));
    }

    private static void overlaps() {
        for (int sort = 0; sort < 4; sort++) {
            for (int i = 0; i < 5; i++) {
                for (int j = 0; j < 5; j++) {
                    x = new OneHandEach();
                    Steps.lay(x, 0, sort, 1, 2, 3, 4, 5);
                    int n = 5 - Math.max(i, j);
                    due("within itself", n, x.shift(0, i, 0, j, n));
                    for (int k = 0; k < 5; k++) {
                        due("as they all were before", k >= j && k < j + n ? k - j + i + 1 : k + 1, x.element(0, k));
                    }
                }
            }
        }
    }

    // ---- promise 38

    private static void taken() {
        for (int shelf : NO_SHELVES) {
            due("taken from " + shelf, BAD, x.taken(shelf, 0));
        }
        for (int k : new int[] {-1, 8, LEAST, GREATEST}) {
            due("taken for " + k, BAD, x.taken(0, k));
        }
        due("nothing there", -11, x.taken(5, 7));
        for (int sort = 0; sort < 5; sort++) {
            x.row(5, sort, 1);
            due("a row", -12, x.taken(5, 0));
            due("BAD ahead of -12", BAD, x.taken(5, 8));
        }
        int[][] over = {{0}, {1, 0}, {2, 0}, {3, 2, 0}, {4, 1, 0}, {5, 3, 2, 0}, {6, 0}, {7, 6, 0}};
        for (int kind = 0; kind < 8; kind++) {
            x.keep(kind % 6, x.body(kind));
            for (int k = 0; k < 8; k++) {
                boolean under = false;
                for (int o : over[kind]) {
                    under = under || o == k;
                }
                due("kind " + kind + " for " + k, under ? kind : -12, x.taken(kind % 6, k));
            }
        }
    }

    // ---- promise 39

    private static void count() {
        for (int what : new int[] {-1, 6, 7, LEAST, GREATEST}) {
            due("count " + what, BAD, x.count(what));
        }
        for (int what = 0; what < 6; what++) {
            due("none, count " + what, 0, x.count(what));
        }
        x = Steps.full();
        int[] full = {8, 10, 0, 40, 50, 0};
        for (int what = 0; what < 6; what++) {
            due("full, count " + what, full[what], x.count(what));
        }
        for (int again = 0; again < 2; again++) {
            x.sight(0, 0);
            x.gun(0, 0);
            x.body(0);
            x.mend(1, 0, 100 + again);
            for (int what = 0; what < 5; what++) {
                due("still full, count " + what, full[what], x.count(what));
            }
        }
        due("full tape", 120, Steps.withFullTape().count(2));
        x.act(5, 3, 0);
        due("ran", 10, x.count(5));
        x.act(0, 0, 0);
        due("in the latest alone", 1, x.count(5));
        x.undo();
        x.forget();
        due("one change less", 39, x.count(3));
        due("one sight less", 7, x.count(0));
        x.redo();
        due("and again", 40, x.count(3));
        lastCall();
    }

    /** An object is used for 512 calls: the last of them is answered, too. */
    private static void lastCall() {
        x = new OneHandEach();
        for (int i = 0; i < 120; i++) {
            x.feed('1');
        }
        for (int i = 0; i < 50; i++) {
            x.body(7);
        }
        for (int i = 0; i < 341; i++) {
            x.set(1, i);
        }
        due("call 512", 341, x.led(1, 0));
        x = new OneHandEach();
        for (int i = 0; i < 510; i++) {
            x.mend(0, 0, i % 2 + 1);
        }
        due("call 511", 40, x.count(3));
        due("call 512", 39, x.undo());
    }
}
