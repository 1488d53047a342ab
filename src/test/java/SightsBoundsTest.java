/** Promises 8 to 16: each bound from both sides, the empty and the full, and where ints wrap. */
public final class SightsBoundsTest {
    private static final int BAD = -1, NOT = -2, FULL = -3, STATE = -5;
    private static final int LEAST = Integer.MIN_VALUE, GREATEST = Integer.MAX_VALUE;
    private static OneHandEach x;

    public static void main(String[] args) {
        Runnable[] promises = {SightsBoundsTest::sight, SightsBoundsTest::sights, SightsBoundsTest::forget,
            SightsBoundsTest::fits, SightsBoundsTest::chance, SightsBoundsTest::likely, SightsBoundsTest::tells,
            SightsBoundsTest::next, SightsBoundsTest::lot};
        for (int i = 0; i < promises.length; i++) {
            Due.about("bounds of promise " + (i + 8));
            x = new OneHandEach();
            promises[i].run();
        }
        Due.end();
    }

    private static void due(String call, long want, long got) {
        Due.due(call, want, got);
    }

    // ---- promise 8

    private static void sight() {
        for (int cp = -5; cp <= 320; cp++) {
            one(cp, 0, cp >= 0 && cp <= 159 && cp % 100 <= 59);
        }
        for (int ft = -5; ft <= 10105; ft++) {
            one(0, ft, ft >= 0 && ft <= 9999 && ft / 100 <= ft % 100);
        }
        for (int any : new int[] {LEAST, LEAST + 1, -100, -101, -200, GREATEST - 1, GREATEST, 1 << 16, 429496729}) {
            one(any, 0, false);
            one(0, any, false);
        }
        full();
    }

    private static void one(int cp, int ft, boolean inside) {
        x = new OneHandEach();
        due("sight " + cp + " " + ft, inside ? 0 : BAD, x.sight(cp, ft));
        due("sights then", inside ? 1 : 0, x.count(0));
        if (inside) {
            due("CLOCK", cp / 100, x.of(0, 10));
            due("PART", cp % 100, x.of(0, 11));
            due("from", ft / 100, x.of(0, 12));
            due("to", ft % 100, x.of(0, 13));
        }
    }

    private static void full() {
        x = new OneHandEach();
        for (int i = 0; i < 8; i++) {
            due("as they come", i, x.sight(100 + i, 9));
        }
        due("the ninth", FULL, x.sight(0, 0));
        due("BAD ahead of FULL", BAD, x.sight(60, 0));
        due("BAD ahead of FULL", BAD, x.sight(0, 100));
        due("eight", 8, x.count(0));
        due("the last one", 7, x.of(7, 11));
        x.forget();
        due("room again", 7, x.sight(0, 0));
        due("and full again", FULL, x.sight(0, 0));
    }

    // ---- promise 9

    private static void sights() {
        for (int shelf : new int[] {-1, 6, LEAST, GREATEST}) {
            due("sights of shelf " + shelf, BAD, x.sights(shelf, 0, 1));
        }
        for (int n : new int[] {0, -1, 9, LEAST, GREATEST}) {
            due(n + " sights", BAD, x.sights(0, 0, n));
        }
        for (int shelf = 0; shelf < 6; shelf++) {
            due("a row that is missing", 0, x.sights(shelf, 0, 1));
            due("a row that is missing, below 0", 0, x.sights(shelf, -1, 8));
            x.row(shelf, 0, 4);
            due("a row on each shelf", 1, x.sights(shelf, 0, 1));
        }
        for (int sort = 1; sort < 5; sort++) {
            x.row(0, sort, 4);
            due("no row of bytes, sort " + sort, -12, x.sights(0, 0, 1));
            due("no row of bytes, below 0", -12, x.sights(0, -1, 1));
            due("BAD ahead of -12", BAD, x.sights(0, 0, 9));
        }
        x.body(0);
        x.keep(0, 0);
        due("a body is no row of bytes", -12, x.sights(0, 0, 1));
        due("a body is no row of bytes, below 0", -12, x.sights(0, -1, 1));
        x.keep(0, -1);
        due("nothing is missing", 0, x.sights(0, 0, 1));
        due("six came", 6, x.count(0));
        ends();
        asMayBe();
        tillFull();
    }

    private static void ends() {
        for (int length = 0; length <= 9; length++) {
            for (int i = -2; i <= 10; i++) {
                x = new OneHandEach();
                x.row(0, 0, length);
                int fours = i < 0 ? 0 : Math.max(0, length - i) / 4;
                due("from " + i + " on of " + length, fours, x.sights(0, i, 8));
                due("came", fours, x.count(0));
            }
        }
        for (int i : new int[] {LEAST, LEAST + 1, -3, -4, 61, GREATEST - 4, GREATEST - 3, GREATEST}) {
            x = new OneHandEach();
            x.row(0, 0, 60);
            due("from " + i + " on", 0, x.sights(0, i, 8));
            due("none came", 0, x.count(0));
        }
        for (int n = 1; n <= 8; n++) {
            x = new OneHandEach();
            x.row(0, 0, 60);
            due("n of them", n, x.sights(0, 1, n));
            due("came", n, x.count(0));
            x = new OneHandEach();
            x.row(0, 0, 60);
            due("to the row's end", Math.min(n, 2), x.sights(0, 52, n));
        }
        // What a longer row held there is not taken for a SIGHT's end, and none is the longer row's rest.
        x = new OneHandEach();
        Steps.lay(x, 0, 0, 0, 5, 1, 2, 0, 6, 1, 2);
        x.row(0, 0, 7);
        due("within a four", 1, x.sights(0, 0, 2));
        due("anew", 0, x.of(0, 11));
    }

    private static void asMayBe() {
        long[][] may = {{0, 0, 0, 0}, {1, 59, 99, 99}, {0, 59, 0, 99}, {1, 0, 98, 99}, {256, 315, 256, 355}};
        long[][] mayNot = {{2, 0, 0, 0}, {-1, 0, 0, 0}, {0, 60, 0, 0}, {0, -1, 0, 0}, {0, 0, 100, 100}, {0, 0, -1, 0},
            {0, 0, 0, 100}, {0, 0, 5, 4}, {0, 0, 0, -1}, {127, 0, 0, 0}, {128, 0, 0, 0}, {0, 0, -1, -1}, {0, 0, 99, 127}};
        for (long[] m : may) {
            x = new OneHandEach();
            Steps.lay(x, 0, 0, m);
            due("as it may be", 1, x.sights(0, 0, 1));
            for (int field = 0; field < 4; field++) {
                due("kept", (byte) m[field], x.of(0, 10 + field));
            }
        }
        for (long[] m : mayNot) {
            x = new OneHandEach();
            Steps.lay(x, 0, 0, m);
            due("not as it may be: " + java.util.Arrays.toString(m), 0, x.sights(0, 0, 1));
            due("did not come", 0, x.count(0));
            Steps.lay(x, 0, 0, 1, 9, 3, 4, m[0], m[1], m[2], m[3], 0, 0, 0, 0);
            due("those ahead came", 1, x.sights(0, 0, 3));
            due("none behind", 1, x.count(0));
            due("the one ahead", 9, x.of(0, 11));
        }
    }

    private static void tillFull() {
        for (int there = 0; there <= 8; there++) {
            x = new OneHandEach();
            for (int i = 0; i < there; i++) {
                x.sight(59, 0);
            }
            x.row(0, 0, 60);
            due("till FULL from " + there, 8 - there, x.sights(0, 0, 8));
            due("eight", 8, x.count(0));
            due("none of them comes", 0, x.sights(0, 0, 1));
        }
    }

    // ---- promise 10

    private static void forget() {
        due("none", STATE, x.forget());
        due("one", 0, x.sight(8, 0));
        due("none left", 0, x.forget());
        due("none", STATE, x.forget());
        x = Steps.full();
        for (int left = 7; left >= 0; left--) {
            due("left", left, x.forget());
            due("count", left, x.count(0));
        }
        due("none", STATE, x.forget());
        due("all fit then", 720, x.fits(-1));
    }

    // ---- promise 11

    private static void fits() {
        for (int k : new int[] {-2, -3, LEAST, LEAST + 1}) {
            due("fits " + k, BAD, x.fits(k));
        }
        due("how many", 720, x.fits(-1));
        due("the first", 0, x.fits(0));
        due("the last", 719, x.fits(719));
        due("behind it", NOT, x.fits(720));
        due("far behind it", NOT, x.fits(GREATEST));
        walks();
        near();
        behindTheHalfDay();
        x = new OneHandEach();
        x.sight(100, 0);
        x.sight(101, 0);
        due("none", 0, x.fits(-1));
        due("none", NOT, x.fits(0));
        due("BAD ahead of NOT", BAD, x.fits(-2));
    }

    /** The first and the last minute of a walk count, those beside them don't. */
    private static void walks() {
        int[][] walks = {{0, 0}, {0, 1}, {5, 7}, {0, 59}, {0, 99}, {99, 99}, {98, 99}, {41, 99}};
        for (int[] w : walks) {
            x = new OneHandEach();
            x.sight(100, w[0] * 100 + w[1]);
            int each = Math.min(60, w[1] - w[0] + 1);
            due("walk " + w[0] + " to " + w[1], 12 * each, x.fits(-1));
            for (int t = 0; t < 60; t++) {
                boolean some = (t + w[0]) % 60 == 0 || (t + w[0]) / 60 < (t + w[1]) / 60;
                due("chance of " + t, some ? 1 : 0, x.chance(t * 1001, 0));
            }
        }
    }

    private static void near() {
        for (int e = 0; e <= 9; e++) {
            for (int part : new int[] {0, 8, 9, 30, 50, 51, 59}) {
                for (int clock = 0; clock < 2; clock++) {
                    x = new OneHandEach();
                    x.mend(0, 2, e);
                    x.sight(clock * 100 + part, 0);
                    int step = clock == 0 ? 12 : 1;
                    due("no more than ERR apart", 12 * (2 * e + 1), x.fits(-1));
                    due("just so many", 1, x.chance((part + e) % 60 * step * 1001, 0));
                    due("one more", 0, x.chance((part + e + 1) % 60 * step * 1001, 0));
                    due("just so many, the other way", 1, x.chance((part - e + 60) % 60 * step * 1001, 0));
                    due("one more, the other way", 0, x.chance((part - e + 59) % 60 * step * 1001, 0));
                }
            }
        }
    }

    /** A walk that ends behind minute 719 goes on in minutes, not from 0 on again: the gain tells which. */
    private static void behindTheHalfDay() {
        for (int gain : new int[] {-9, 9}) {
            for (int part = 0; part < 60; part++) {
                x = new OneHandEach();
                x.mend(1, 1, gain);
                x.mend(1, 0, -1);
                x.sight(100 + part, 9999);
                int many = 0;
                for (int t = 0; t < 720; t++) {
                    many += (t + 99 - 1 + (t + 99) * gain / 100) % 60 == part ? 1 : 0;
                }
                due("part " + part + " by gain " + gain, many, x.fits(-1));
            }
        }
    }

    // ---- promise 12

    private static void chance() {
        int[] inside = {0, 1, 719, 1001, 1002, 718719, 719719, 1719};
        int[] outside = {-1, -1000, 720, 999, 1000, 1720, 2001, 719718, 719720, 719999, 720719, 720720, 720999, LEAST, GREATEST,
            GREATEST - 600};
        for (int ab : inside) {
            int many = ab % 1000 - ab / 1000 + 1;
            long shared = java.math.BigInteger.valueOf(many).gcd(java.math.BigInteger.valueOf(720)).longValue();
            due("chance " + ab, many / shared, x.chance(ab, 0));
            due("by, chance " + ab, 720 / shared, x.chance(ab, 1));
        }
        for (int ab : outside) {
            due("chance " + ab, BAD, x.chance(ab, 0));
            due("by, chance " + ab, BAD, x.chance(ab, 1));
        }
        for (int part : new int[] {-1, 2, LEAST, GREATEST}) {
            due("part " + part, BAD, x.chance(719, part));
        }
        Steps.law(x, "99");
        due("all by 99 each", 1, x.chance(719, 0));
        due("all by 99 each", 1, x.chance(719, 1));
        due("one by 99 each", 720, x.chance(1001, 1));
        Steps.law(x, "t=5|t=9");
        due("a, itself", 1, x.chance(5008, 0));
        due("a, itself", 2, x.chance(5008, 1));
        due("b, itself", 1, x.chance(6009, 0));
        due("between", 0, x.chance(6008, 0));
        due("none there: by 1", 1, x.chance(6008, 1));
        due("both", 1, x.chance(5009, 0));
        due("both", 1, x.chance(5009, 1));
        Steps.law(x, "t=0|t=719");
        due("the first time", 1, x.chance(0, 0));
        due("the first time", 2, x.chance(0, 1));
        due("the last time", 1, x.chance(719719, 0));
        due("the last time", 2, x.chance(719719, 1));
        Steps.law(x, "0");
        due("no weight: 0", 0, x.chance(719, 0));
        due("no weight: by 1", 1, x.chance(719, 1));
        Steps.law(x, "1");
        x.sight(0, 0);
        x.sight(1, 0);
        due("none fits: 0", 0, x.chance(719, 0));
        due("none fits: by 1", 1, x.chance(719, 1));
        due("BAD, too", BAD, x.chance(720, 0));
    }

    // ---- promise 13

    private static void likely() {
        due("without a text the first", 0, x.likely());
        Steps.law(x, "t");
        due("held at 99: the first of those", 99, x.likely());
        Steps.law(x, "t=719");
        due("the last time", 719, x.likely());
        Steps.law(x, "t=0");
        due("the first time", 0, x.likely());
        Steps.law(x, "-t");
        due("held at 0: the first of those", 0, x.likely());
        x.sight(7, 0);
        due("the first that fits", 84, x.likely());
        Steps.law(x, "(t=83)*9+(t=95)*2+(t=96)*9+(t=90)*2");
        due("of like ones that fit the first", 90, x.likely());
        x.sight(8, 0);
        due("none fits", NOT, x.likely());
        x.mend(0, 2, 1);
        due("near ones fit", 96, x.likely());
    }

    // ---- promise 14

    private static void tells() {
        for (int sight : new int[] {-1, 0, 1, LEAST, GREATEST}) {
            due("tells " + sight, BAD, x.tells(sight));
        }
        x = Steps.full();
        due("the first of eight", 0, x.tells(0));
        due("the last of eight", 0, x.tells(7));
        due("behind it", BAD, x.tells(8));
        due("below", BAD, x.tells(-1));
        x = new OneHandEach();
        x.sight(15, 0);
        due("the only one", 708, x.tells(0));
        x.sight(105, 0);
        due("the first of two", 11, x.tells(0));
        due("the second of two", 11, x.tells(1));
        due("behind them", BAD, x.tells(2));
        x.sight(159, 9999);
        due("none fits", 0, x.fits(-1));
        due("without the third one does", 1, x.tells(2));
        due("they all stay", 3, x.count(0));
    }

    // ---- promise 15

    private static void next() {
        for (int d : new int[] {-1, 100, LEAST, GREATEST}) {
            due("next " + d, BAD, x.next(d, 0));
            due("how many, next " + d, BAD, x.next(d, 1));
        }
        for (int what : new int[] {-1, 2, LEAST, GREATEST}) {
            due("what " + what, BAD, x.next(0, what));
        }
        for (int d = 0; d <= 99; d++) {
            due("of like ones CLOCK 0", 0, x.next(d, 0));
            due("twelve of each part", 12, x.next(d, 1));
        }
        // Those from 5 minutes ahead of an hour to the hour fit: the hour hand parts them d minutes later.
        x.sight(100, 5);
        int[] most = {5, 4, 3, 4, 5, 6, 6};
        for (int d = 0; d <= 99; d++) {
            int behind = d % 12;
            due("by the hour hand", 0, x.next(d, 0));
            due("at " + d, behind < 7 ? most[behind] : 6, x.next(d, 1));
        }
        x = new OneHandEach();
        x.sight(20, 0);
        due("the twelve of a part", 12, x.fits(-1));
        for (int d = 0; d <= 99; d++) {
            due("by the other hand", 1, x.next(d, 0));
            due("one each", 1, x.next(d, 1));
        }
        x.sight(21, 0);
        due("none fits", NOT, x.next(99, 0));
        due("none fits", NOT, x.next(0, 1));
        due("BAD ahead of NOT", BAD, x.next(100, 0));
        due("BAD ahead of NOT", BAD, x.next(0, 2));
        x.forget();
        x.sight(120, 0);
        due("none fits", NOT, x.next(0, 0));
        x.forget();
        x.sight(100, 0);
        due("one time fits", 1, x.fits(-1));
        due("of like ones CLOCK 0", 0, x.next(50, 0));
        due("how many", 1, x.next(50, 1));
        x = new OneHandEach();
        x.sight(0, 0);
        x.sight(100, 0);
        due("the first time alone", 0, x.fits(0));
        due("how many", 1, x.next(0, 1));
        // By GAIN -9 the other hand shows the same at minutes 244 and 245, of those from 240 to 251.
        x = new OneHandEach();
        x.mend(1, 1, -9);
        x.sight(20, 0);
        due("by the other hand", 1, x.next(0, 0));
        due("two of a part", 2, x.next(0, 1));
        x = new OneHandEach();
        x.sight(100, 5);
        for (int off = 0; off < 7; off++) {
            x.mend(0, 0, off);
            due("by an OFF as by minutes", most[off], x.next(0, 1));
        }
    }

    // ---- promise 16

    private static void lot() {
        for (int n : new int[] {0, -1, 21, LEAST, GREATEST}) {
            due("lot of " + n, BAD, x.lot(1, n, 0));
        }
        for (int what : new int[] {-1, 2, LEAST, GREATEST}) {
            due("what " + what, BAD, x.lot(1, 1, what));
        }
        int[][] walks = {{10, 20}, {0, 0}, {0, 99}, {99, 99}, {0, 1}, {50, 51}};
        for (int[] walk : walks) {
            for (int err : new int[] {0, 1, 9}) {
                for (int seed : new int[] {0, 1, -1, 7, LEAST, GREATEST, 0x4d2f3a91}) {
                    byWalkers(walk, err, seed);
                }
            }
        }
        x = new OneHandEach();
        x.mend(0, 3, 0);
        x.mend(0, 4, 0);
        due("one walker, just one time", 1, x.lot(3, 1, 1));
        due("twenty walkers, just one time each", 20, x.lot(3, 20, 1));
        due("twenty times together", 20, x.lot(3, 20, 0));
        Steps.law(x, "0");
        x.sight(0, 0);
        x.sight(1, 0);
        due("none fits the sights", 0, x.fits(-1));
        due("no weights and no other sights", 20, x.lot(3, 20, 0));
    }

    /** Each walker's two sights are kept by an object of its own, of which it is asked how many times fit. */
    private static void byWalkers(int[] walk, int err, int seed) {
        x = town(walk, err);
        int z = seed;
        int together = 0;
        int one = 0;
        for (int n = 1; n <= 20; n++) {
            z = z * 1103515245 + 12345;
            int time = (z >>> 8) % 720;
            z = z * 1103515245 + 12345;
            int end = time + walk[0] + (z >>> 8) % (walk[1] - walk[0] + 1);
            OneHandEach walker = town(walk, err);
            walker.sight(walker.shown(0, time, 1), 0);
            walker.sight(100 + walker.shown(1, end, 1), 100 * walk[0] + walk[1]);
            together += walker.fits(-1);
            one += walker.fits(-1) == 1 ? 1 : 0;
            String call = "lot " + seed + " " + n + " by " + walk[0] + " " + walk[1] + " " + err;
            due(call, together, x.lot(seed, n, 0));
            due(call + " one", one, x.lot(seed, n, 1));
        }
    }

    private static OneHandEach town(int[] walk, int err) {
        OneHandEach town = new OneHandEach();
        town.mend(0, 0, 7);
        town.mend(1, 0, -5);
        town.mend(0, 1, -3);
        town.mend(1, 1, 9);
        town.mend(0, 2, err);
        town.mend(0, 3, 0);
        town.mend(0, 4, walk[1]);
        town.mend(0, 3, walk[0]);
        return town;
    }
}
