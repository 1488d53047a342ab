/** Promises 17 to 29: each bound from both sides, the empty and the full. */
public final class GunsBoundsTest {
    private static final int BAD = -1, NOT = -2, FULL = -3, STATE = -5, VOID = -2000000000;
    private static final int LEAST = Integer.MIN_VALUE, GREATEST = Integer.MAX_VALUE;
    private static OneHandEach x;

    public static void main(String[] args) {
        Runnable[] promises = {GunsBoundsTest::gun, GunsBoundsTest::guess, GunsBoundsTest::liars,
            GunsBoundsTest::agree, GunsBoundsTest::meet, GunsBoundsTest::round, GunsBoundsTest::set,
            GunsBoundsTest::led, GunsBoundsTest::judge, GunsBoundsTest::image, GunsBoundsTest::back,
            GunsBoundsTest::undo, GunsBoundsTest::redo};
        for (int i = 0; i < promises.length; i++) {
            Due.about("bounds of promise " + (i + 17));
            x = new OneHandEach();
            promises[i].run();
        }
        Due.end();
    }

    private static void due(String call, long want, long got) {
        Due.due(call, want, got);
    }

    // ---- promise 17

    private static void gun() {
        for (int cd = -5; cd <= 320; cd++) {
            one(cd, 7, cd >= 0 && cd <= 140 && cd % 100 <= 40);
        }
        for (int part = -5; part <= 130; part++) {
            one(100, part, part >= 0 && part <= 59);
        }
        for (int any : new int[] {LEAST, LEAST + 1, -100, -200, GREATEST, 1 << 16, 256, -256, 429496729}) {
            one(any, 7, false);
            one(40, any, false);
        }
        x = new OneHandEach();
        for (int i = 0; i < 10; i++) {
            due("as they come", i, x.gun(i, i));
            due("DAY", i, x.of(i, 21));
        }
        due("the eleventh", FULL, x.gun(0, 0));
        due("BAD ahead of FULL", BAD, x.gun(41, 0));
        due("BAD ahead of FULL", BAD, x.gun(0, 60));
        due("ten", 10, x.count(1));
        due("behind the last", VOID, x.of(10, 20));
    }

    private static void one(int cd, int part, boolean inside) {
        x = new OneHandEach();
        due("gun " + cd + " " + part, inside ? 0 : BAD, x.gun(cd, part));
        due("guns then", inside ? 1 : 0, x.count(1));
        due("CLOCK", inside ? cd / 100 : VOID, x.of(0, 20));
        due("DAY", inside ? cd % 100 : VOID, x.of(0, 21));
        due("PART", inside ? part : VOID, x.of(0, 22));
    }

    // ---- promise 18

    private static void guess() {
        for (int clock : new int[] {-1, 2, LEAST, GREATEST}) {
            due("guess of clock " + clock, VOID, x.guess(clock, 0));
        }
        for (int what : new int[] {-1, 7, LEAST, GREATEST}) {
            due("guess what " + what, VOID, x.guess(0, what));
        }
        told(0, 61 * 19, -30, -9, -30, 30, -9, 9);
        told(1, 61 * 19, -30, -9, -30, 30, -9, 9);
        offs();
        gains();
        x = new OneHandEach();
        x.gun(100, 58);
        due("an OFF of -2 is no NOT", -2, x.guess(1, 1));
        due("an OFF of -2 is no NOT", 19, x.guess(1, 0));
        x.gun(100, 57);
        none(1);
        due("the other clock's guns are its own", 61 * 19, x.guess(0, 0));
        due("VOID ahead of NOT", VOID, x.guess(1, 7));
        x.mend(0, 2, 1);
        due("both are near", 38, x.guess(1, 0));
        due("the first", -3, x.guess(1, 1));
    }

    private static void told(int clock, int... want) {
        for (int what = 0; what < 7; what++) {
            due("guess " + clock + " " + what, want[what], x.guess(clock, what));
        }
    }

    private static void none(int clock) {
        told(clock, 0, NOT, NOT, NOT, NOT, NOT, NOT);
    }

    private static void guns(int err, int... cdAndPart) {
        x = new OneHandEach();
        x.mend(0, 2, err);
        for (int i = 0; i < cdAndPart.length; i += 2) {
            x.gun(cdAndPart[i], cdAndPart[i + 1]);
        }
    }

    private static void offs() {
        guns(0, 100, 30);
        told(1, 38, -30, -9, -30, 30, -9, 9);
        guns(0, 100, 29);
        told(1, 19, 29, -9, 29, 29, -9, 9);
        guns(0, 100, 31);
        told(1, 19, -29, -9, -29, -29, -9, 9);
        guns(0, 0, 2);
        told(0, 7 * 19, 24, -9, 24, 30, -9, 9);
        guns(0, 0, 57);
        told(0, 6 * 19, -30, -9, -30, -25, -9, 9);
        guns(0, 0, 3);
        none(0);
        guns(0, 0, 56);
        none(0);
        guns(1, 0, 3);
        told(0, 7 * 19, 24, -9, 24, 30, -9, 9);
        guns(1, 0, 4);
        none(0);
        guns(9, 0, 11);
        told(0, 7 * 19, 24, -9, 24, 30, -9, 9);
        guns(9, 0, 12);
        none(0);
        guns(9, 0, 48);
        told(0, 6 * 19, -30, -9, -30, -25, -9, 9);
        guns(9, 0, 47);
        none(0);
        guns(2, 100, 0);
        told(1, 5 * 19, -2, -9, -2, 2, -9, 9);
        guns(1, 100, 59);
        told(1, 3 * 19, -2, -9, -2, 0, -9, 9);
    }

    private static void gains() {
        // By day 1 a clock that was right has gained 64 by GAIN 9 and lost 64 by -9; by 10 it would have gained 72.
        guns(0, 100, 0, 101, 4);
        told(1, 1, 0, 9, 0, 0, 9, 9);
        guns(0, 100, 0, 101, 56);
        told(1, 1, 0, -9, 0, 0, -9, -9);
        guns(0, 100, 0, 101, 12);
        none(1);
        guns(0, 100, 0, 101, 48);
        none(1);
        guns(0, 100, 0, 101, 53);
        told(1, 1, 0, -1, 0, 0, -1, -1);
        // 28800 minutes by GAIN 1 are 288, by -1 are -288, and by 0 none.
        guns(0, 100, 0, 140, 48);
        told(1, 4, 0, -9, 0, 0, -9, 6);
        guns(0, 140, 0);
        told(1, 19, -24, -7, -24, 24, -9, 9);
        guns(0, 1, 4);
        // On day 1 the hour hand was at 48 to 59.
        due("the least GAIN", 3, x.guess(0, 5));
        due("the greatest GAIN", 9, x.guess(0, 6));
        due("the first OFF", -16, x.guess(0, 1));
        due("its GAIN", 9, x.guess(0, 2));
    }

    // ---- promise 19

    private static void liars() {
        for (int clock : new int[] {-1, 2, LEAST, GREATEST}) {
            due("liars of clock " + clock, BAD, x.liars(clock));
        }
        due("no guns", 0, x.liars(0));
        due("no guns", 0, x.liars(1));
        guns(0, 100, 30);
        due("OFF 30 or -30", 0, x.liars(1));
        guns(0, 0, 2);
        due("OFF 24 to 30", 0, x.liars(0));
        guns(0, 0, 57);
        due("OFF -30 to -25", 0, x.liars(0));
        guns(0, 0, 3);
        due("OFF 36: a liar alone", 1, x.liars(0));
        guns(0, 100, 0, 101, 4);
        due("GAIN 9", 0, x.liars(1));
        guns(0, 100, 0, 101, 56);
        due("GAIN -9", 0, x.liars(1));
        guns(0, 100, 0, 101, 12, 100, 0);
        due("GAIN 10: the one of them", 2, x.liars(1));
        // OFF -30 and GAIN -1 by day 1: 683, the last minute of part 56, which none but these have together with 57.
        guns(0, 1, 56, 0, 57);
        due("OFF -30", 0, x.liars(0));
        guns(0, 0, 30, 0, 30, 0, 30);
        due("all of a clock's guns", 7, x.liars(0));
        guns(0, 0, 0, 0, 0, 0, 0, 0, 0, 0, 0, 0, 0, 0, 0, 0, 0, 0, 0, 0, 30);
        due("the tenth gun", 512, x.liars(0));
        guns(0, 100, 1, 100, 2, 100, 3, 100, 4, 100, 5, 100, 6, 100, 7, 100, 8, 100, 9, 100, 10);
        due("all but one, the least bits", 511, x.liars(1));
        guns(0, 100, 1, 100, 2, 100, 3, 0, 30, 0, 0);
        due("bits of the guns' numbers", 8, x.liars(0));
        due("of like ones the least", 3, x.liars(1));
        guns(0, 100, 5, 100, 5, 100, 7);
        due("the fewest, not the least bits", 4, x.liars(1));
        guns(0, 100, 7, 100, 7, 100, 5);
        due("the fewest, not the least bits", 4, x.liars(1));
        guns(0, 100, 5, 100, 7, 100, 7, 100, 5);
        due("two and two: the least bits", 6, x.liars(1));
        x.mend(0, 2, 1);
        due("near ones don't lie", 0, x.liars(1));
    }

    // ---- promise 20

    private static void agree() {
        int[][] inside = {{0, 0}, {0, 1}, {0, 1440}, {1, 1441}, {99999, 99999}, {98559, 99999}, {98560, 99999}, {99998, 99999}};
        int[][] outside = {{-1, -1}, {-1, 0}, {0, -1}, {1, 0}, {0, 1441}, {98558, 99999}, {99999, 99998}, {99999, 100000},
            {98560, 100000}, {100000, 100000}, {LEAST, 0}, {0, LEAST}, {0, GREATEST}, {GREATEST, GREATEST},
            {GREATEST, LEAST}, {LEAST, LEAST}, {GREATEST - 1440, GREATEST}};
        for (int[] i : inside) {
            due("agree " + i[0] + " " + i[1], i[1] - i[0] + 1, x.agree(i[0], i[1], 0));
            due("the first", i[0], x.agree(i[0], i[1], 1));
        }
        for (int[] o : outside) {
            due("agree " + o[0] + " " + o[1], BAD, x.agree(o[0], o[1], 0));
            due("the first", BAD, x.agree(o[0], o[1], 1));
        }
        for (int what : new int[] {-1, 2, LEAST, GREATEST}) {
            due("agree what " + what, BAD, x.agree(0, 0, what));
        }
        // By GAIN 1 CLOCK 1 is right till minute 99, and again from 72000 to 72099, as it has gained 720 then.
        x.mend(1, 1, 1);
        due("a, itself", 1, x.agree(99, 1539, 0));
        due("a, itself", 99, x.agree(99, 1539, 1));
        due("none", 0, x.agree(100, 1540, 0));
        due("none", NOT, x.agree(100, 1540, 1));
        due("b, itself", 1, x.agree(70560, 72000, 0));
        due("b, itself", 72000, x.agree(70560, 72000, 1));
        due("none", 0, x.agree(70559, 71999, 0));
        due("a hundred", 100, x.agree(71999, 72100, 0));
        due("BAD ahead of NOT", BAD, x.agree(100, 1541, 1));
        x.mend(0, 2, 9);
        due("near is not alike", 0, x.agree(100, 1540, 0));
        x.mend(0, 0, 60);
        due("a like PART is not alike", 0, x.agree(0, 1000, 0));
    }

    // ---- promise 21

    private static void meet() {
        for (int t : new int[] {-1, 100000, LEAST, GREATEST}) {
            due("meet from " + t, BAD, x.meet(t, 0, 0));
        }
        for (int pq : new int[] {-1, 60, 99, 160, 5960, 5999, 6000, 10000, LEAST, GREATEST, -100}) {
            due("meet " + pq, BAD, x.meet(0, pq, 0));
            due("meet " + pq, BAD, x.meet(99999, pq, 2));
        }
        for (int what : new int[] {-1, 3, LEAST, GREATEST}) {
            due("meet what " + what, BAD, x.meet(0, 0, what));
        }
        int[][] told = {{0, 0, 0, 0}, {0, 5959, 708, 59}, {0, 5900, 708, 0}, {0, 59, 0, 59}, {1, 0, 1, 60}, {11, 0, 11, 60},
            {12, 0, 720, 60}, {59, 59, 720, 59}, {60, 0, 720, 60}, {708, 5959, 708, 719}, {719, 5959, 719, 719},
            {720, 5959, 1428, 779}, {99999, 0, 100080, 100020}, {99999, 5319, 99999, 100039}, {99999, 5239, 100704, 99999}};
        for (int[] t : told) {
            String call = "meet " + t[0] + " " + t[1];
            due(call, t[2], x.meet(t[0], t[1], 0));
            due(call + " 1", t[3], x.meet(t[0], t[1], 1));
            due(call + " 2", Math.abs(t[2] - t[3]), x.meet(t[0], t[1], 2));
        }
        // By GAIN 9 a part of the other hand may be leapt over: its next time counts.
        for (int gain : new int[] {-9, 9}) {
            for (int part = 0; part < 60; part++) {
                x = new OneHandEach();
                x.mend(0, 1, gain);
                x.mend(1, 1, gain);
                int hours = 4000;
                int other = 4000;
                for (int i = 0; (hours + hours * gain / 100) % 720 / 12 != part; i++) {
                    hours++;
                }
                for (int i = 0; (other + other * gain / 100) % 60 != part; i++) {
                    other++;
                }
                due("meet " + part + " by " + gain, hours, x.meet(4000, part * 101, 0));
                due("meet " + part + " by " + gain, other, x.meet(4000, part * 101, 1));
                due("meet " + part + " by " + gain, Math.abs(hours - other), x.meet(4000, part * 101, 2));
            }
        }
    }

    // ---- promise 22

    private static void round() {
        for (int clock : new int[] {-1, 2, LEAST, GREATEST}) {
            due("round of clock " + clock, BAD, x.round(clock, 0));
        }
        for (int out : new int[] {-1, 61, LEAST, GREATEST}) {
            due("round by " + out, BAD, x.round(0, out));
        }
        for (int gain = -9; gain <= 9; gain++) {
            for (int clock = 0; clock < 2; clock++) {
                x = new OneHandEach();
                x.mend(clock, 1, gain);
                x.mend(clock, 0, 100);
                for (int out = 0; out <= 60; out++) {
                    int most = gain == 0 ? 720 : Math.min(720, (100 * (out + 1) - 1) / Math.abs(gain));
                    due("round by " + gain + " and " + out, most, x.round(clock, out));
                    due("the other one is right", 720, x.round(1 - clock, out));
                }
            }
        }
    }

    // ---- promise 23

    private static void set() {
        for (int clock : new int[] {-1, 2, LEAST, GREATEST}) {
            due("set of clock " + clock, VOID, x.set(clock, 0));
        }
        for (int minute : new int[] {-1, 100000, LEAST, GREATEST}) {
            due("set at " + minute, VOID, x.set(0, minute));
        }
        due("none was set", 0, x.led(0, 0));
        for (int off = -360; off <= 359; off++) {
            for (int clock = 0; clock < 2; clock++) {
                x = new OneHandEach();
                x.mend(1 - clock, 0, off);
                due("set", off, x.set(clock, off + 360));
                due("of", off, x.of(clock, 0));
                due("the other one stays", off, x.of(1 - clock, 0));
                due("no CHANGE", off == 0 ? 0 : 1, x.count(3));
            }
        }
        int[] minutes = {0, 1, 11, 12, 99, 100, 719, 720, 50000, 99998, 99999};
        for (int minute : minutes) {
            for (int gain = -9; gain <= 9; gain += 3) {
                x = new OneHandEach();
                x.mend(0, 1, gain);
                x.mend(1, 1, -gain);
                x.mend(1, 0, 359);
                int off = x.set(0, minute);
                Due.that("an OFF", off >= -360 && off <= 359 && off == x.of(0, 0));
                due("both alike", x.shown(1, minute, 0), x.shown(0, minute, 0));
                due("the latest", minute, x.led(0, 1));
            }
        }
    }

    // ---- promise 24

    private static void led() {
        for (int clock : new int[] {-1, 2, LEAST, GREATEST}) {
            due("led of clock " + clock, BAD, x.led(clock, 0));
        }
        for (int what : new int[] {-1, 2, LEAST, GREATEST}) {
            due("led what " + what, BAD, x.led(0, what));
        }
        due("never", NOT, x.led(0, 1));
        due("BAD ahead of NOT", BAD, x.led(0, 2));
        due("a SET", 0, x.set(0, 0));
        due("once", 1, x.led(0, 0));
        due("at minute 0", 0, x.led(0, 1));
        due("the other one never", 0, x.led(1, 0));
        due("the other one never", NOT, x.led(1, 1));
        x.set(0, 99999);
        due("at the last minute", 99999, x.led(0, 1));
        x.set(0, 100000);
        x.set(0, -1);
        x.set(2, 5);
        due("what is refused is none", 2, x.led(0, 0));
        due("what is refused is none", 99999, x.led(0, 1));
        for (int i = 0; i < 200; i++) {
            x.set(1, 300 - i);
            due("so often", i + 1, x.led(1, 0));
        }
        due("the latest, not the greatest", 101, x.led(1, 1));
    }

    // ---- promise 25

    private static void judge() {
        for (int shelf : new int[] {-1, 6, LEAST, GREATEST}) {
            due("judge " + shelf, BAD, x.judge(shelf));
        }
        x.body(0);
        for (int shelf = 0; shelf < 6; shelf++) {
            due("nothing there", -11, x.judge(shelf));
            x.keep(shelf, 0);
            due("a body", -12, x.judge(shelf));
            for (int sort = 0; sort < 5; sort++) {
                x.row(shelf, sort, 0);
                due("a row of sort " + sort, sort == 1 ? NOT : -12, x.judge(shelf));
            }
        }
        for (int length = 0; length <= 60; length++) {
            x.row(0, 1, length);
            due("a row of " + length, length % 3 == 0 ? NOT : length / 3, x.judge(0));
        }
        long[][] so = {{0, 0, 0}, {1, 0, 0}, {0, 719, 59}, {1, 719, 59}, {0, 720, 0}, {1, 32767, 7}, {0, 32767, 30},
            {65536, 65536 + 24, 65536 + 2}};
        long[][] notSo = {{2, 0, 0}, {-1, 0, 0}, {0, -1, 0}, {0, -1, 59}, {1, -1, 59}, {0, -32768, 0}, {0, 0, 1}, {0, 0, -1},
            {0, 0, 60}, {1, 0, 60}, {1, 719, -1}, {32767, 0, 0}, {1, 32768, 8}};
        for (long[] s : so) {
            Steps.lay(x, 0, 1, s);
            due("is so " + java.util.Arrays.toString(s), NOT, x.judge(0));
        }
        for (long[] n : notSo) {
            Steps.lay(x, 1, 1, 0, 0, 0, n[0], n[1], n[2], 2, 2, 2);
            due("is not so " + java.util.Arrays.toString(n), 1, x.judge(1));
        }
        x.mend(0, 2, 9);
        Steps.lay(x, 2, 1, 0, 0, 1);
        due("near is not so", 0, x.judge(2));
        x.mend(0, 0, 12);
        due("by what is shown", NOT, x.judge(2));
        x = new OneHandEach();
        Steps.lay(x, 2, 1, new long[60]);
        x.put(2, 57, 2);
        due("the twentieth", 19, x.judge(2));
    }

    // ---- promise 26

    private static void image() {
        due("of no sights", 0, x.image());
        due("laid back", 0, x.back());
        x = Steps.full();
        due("of eight", 8, x.image());
        while (x.count(0) > 0) {
            x.forget();
        }
        due("laid back", 8, x.back());
        due("the last one", 7, x.of(7, 11));
        due("the guns", 10, x.count(1));
        due("the last gun", 9, x.of(9, 22));
        x.forget();
        due("a later one in its place", 7, x.image());
        x.forget();
        due("the later one", 7, x.back());
    }

    // ---- promise 27

    private static void back() {
        due("none", STATE, x.back());
        x.sight(9, 9);
        due("none", STATE, x.back());
        due("what is there stays", 1, x.count(0));
        x = new OneHandEach();
        x.image();
        x.sight(5, 0);
        x.gun(0, 0);
        x.mend(0, 0, 9);
        x.mend(0, 1, 9);
        x.mend(0, 2, 9);
        x.mend(0, 4, 99);
        x.mend(0, 3, 0);
        x.set(1, 4);
        Steps.law(x, "5");
        Steps.feed(x, "66");
        x.body(5);
        x.keep(0, 0);
        x.act(0, 2, 0);
        due("an image of nothing", 0, x.back());
        due("no sights", 0, x.count(0));
        due("no guns", 0, x.count(1));
        due("OFF", 0, x.of(0, 0));
        due("OFF of the one that was set", 0, x.of(1, 0));
        due("LED", 0, x.led(1, 0));
        due("LED", NOT, x.led(1, 1));
        int[] stay = {9, 9, 0, 99};
        for (int what = 1; what <= 4; what++) {
            due("what is not in it stays: " + what, stay[what - 1], x.of(0, what));
        }
        due("the law stays", 5, x.weight(0));
        due("the tape stays", 2, x.count(2));
        due("the changes stay", 5, x.count(3));
        due("the bodies stay", 1, x.count(4));
        due("the trace stays", 4, x.count(5));
        due("the shelves stay", 5, x.taken(0, 0));
        x.sight(6, 0);
        x.mend(0, 0, -9);
        due("again", 0, x.back());
        due("no sights", 0, x.count(0));
        due("OFF", 0, x.of(0, 0));
        due("undone to what it was ahead of its mend", 5, x.undo());
        due("OFF", 0, x.of(0, 0));
    }

    // ---- promises 28 and 29

    private static final int[][] AMOUNTS = {{0, 0}, {1, 0}, {0, 1}, {1, 1}, {0, 2}, {0, 3}, {0, 4}};

    /** What the i-th of many mends makes of an amount: each time another value, of one amount after the other. */
    private static int value(int i) {
        int round = i / 7 + 1;
        int[] values = {10 * round, -10 * round, round, -round, round, round, 90 + round};
        return values[i % 7];
    }

    private static void mendOnAndOn(int from, int till) {
        for (int i = from; i < till; i++) {
            Due.that("mend " + i, x.mend(AMOUNTS[i % 7][0], AMOUNTS[i % 7][1], value(i)) != VOID);
        }
    }

    /** All amounts are as they were behind the first so many mends. */
    private static void stand(int mends) {
        int[] amounts = {0, 0, 0, 0, 0, 10, 20};
        for (int i = 0; i < mends; i++) {
            amounts[i % 7] = value(i);
        }
        for (int a = 0; a < 7; a++) {
            due("amount " + a + " behind " + mends, amounts[a], x.of(AMOUNTS[a][0], AMOUNTS[a][1]));
        }
    }

    private static void undo() {
        due("none", STATE, x.undo());
        for (int many = 1; many <= 43; many++) {
            x = new OneHandEach();
            mendOnAndOn(0, many);
            int kept = Math.min(40, many);
            due("kept of " + many, kept, x.count(3));
            for (int left = kept - 1; left >= 0; left--) {
                due("undone", left, x.undo());
                due("count", left, x.count(3));
                stand(many - kept + left);
            }
            due("no more", STATE, x.undo());
            stand(many - kept);
        }
        x = new OneHandEach();
        mendOnAndOn(0, 40);
        for (int i = 0; i < 10; i++) {
            due("no change, pushes none out", 0, x.mend(0, 0, 60) - 60);
        }
        due("forty", 40, x.count(3));
        x.undo();
        x.undo();
        mendOnAndOn(38, 40);
        due("forty again", 40, x.count(3));
        for (int left = 39; left >= 0; left--) {
            due("undone", left, x.undo());
        }
        stand(0);
    }

    private static void redo() {
        due("none", STATE, x.redo());
        x = new OneHandEach();
        mendOnAndOn(0, 41);
        due("none was undone", STATE, x.redo());
        for (int i = 0; i < 40; i++) {
            x.undo();
        }
        for (int i = 1; i <= 40; i++) {
            due("done again", 40 - i, x.redo());
            due("count", i, x.count(3));
            stand(i + 1);
        }
        due("none is left", STATE, x.redo());
        x = new OneHandEach();
        mendOnAndOn(0, 40);
        due("one less", 39, x.undo());
        x.mend(1, 0, 77);
        due("another came behind", STATE, x.redo());
        due("forty", 40, x.count(3));
        x.undo();
        due("what came behind is the one that can be done again", 0, x.redo());
        due("OFF", 77, x.of(1, 0));
        x.undo();
        due("what is refused did not come", VOID, x.mend(0, 0, 360));
        x.set(0, 9);
        x.image();
        x.back();
        due("SET and what is laid back are none", 0, x.redo());
        due("OFF", 77, x.of(1, 0));
        // Done again after an undo in the midst, up to the one that was not undone, and no further.
        x = new OneHandEach();
        mendOnAndOn(0, 6);
        x.undo();
        x.undo();
        x.undo();
        due("two are left", 2, x.redo());
        mendOnAndOn(4, 5);
        due("none is left", STATE, x.redo());
        stand(5);
        due("five", 5, x.count(3));
    }
}
