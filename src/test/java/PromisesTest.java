/** One method for each promise of ../shared/DOC.md: ordinary inputs, edges, wrong inputs. */
public final class PromisesTest {
    private static final int BAD = -1, NOT = -2, FULL = -3, STATE = -5, VOID = -2000000000;
    private static OneHandEach x;

    public static void main(String[] args) {
        Runnable[] promises = {
            PromisesTest::newObject, PromisesTest::mend, PromisesTest::of, PromisesTest::shown, PromisesTest::feed,
            PromisesTest::law, PromisesTest::weight, PromisesTest::sight, PromisesTest::sights,
            PromisesTest::forget, PromisesTest::fits, PromisesTest::chance, PromisesTest::likely,
            PromisesTest::tells, PromisesTest::next, PromisesTest::lot, PromisesTest::gun, PromisesTest::guess,
            PromisesTest::liars, PromisesTest::agree, PromisesTest::meet, PromisesTest::round, PromisesTest::set,
            PromisesTest::led, PromisesTest::judge, PromisesTest::image, PromisesTest::back, PromisesTest::undo,
            PromisesTest::redo, PromisesTest::body, PromisesTest::act, PromisesTest::trace, PromisesTest::keep,
            PromisesTest::row, PromisesTest::put, PromisesTest::element, PromisesTest::shift,
            PromisesTest::taken, PromisesTest::count};
        for (int i = 0; i < promises.length; i++) {
            Due.about("promise " + (i + 1));
            x = new OneHandEach();
            promises[i].run();
        }
        Due.that("there are 39", promises.length == 39);
        Due.end();
    }

    private static void due(String call, long want, long got) {
        Due.due(call, want, got);
    }

    private static int law(String text) {
        for (int i = 0; i < text.length(); i++) {
            x.feed(text.charAt(i));
        }
        return x.law();
    }

    /** The weight of a time by a law. */
    private static int weighed(String text, int time) {
        due("law " + text, 1, law(text));
        return x.weight(time);
    }

    private static void newObject() {
        for (int clock = 0; clock < 2; clock++) {
            due("off", 0, x.of(clock, 0));
            due("gain", 0, x.of(clock, 1));
            due("shown at 700", 700, x.shown(clock, 700, 0));
            due("shown at 720", 0, x.shown(clock, 720, 0));
        }
        due("err", 0, x.of(0, 2));
        due("w0", 10, x.of(0, 3));
        due("w1", 20, x.of(0, 4));
        for (int what = 0; what < 6; what++) {
            due("count " + what, 0, x.count(what));
        }
        for (int shelf = 0; shelf < 6; shelf++) {
            due("shelf", -11, x.taken(shelf, 0));
        }
        due("weight", 1, x.weight(5));
        due("back", STATE, x.back());
        due("led", 0, x.led(0, 0));
    }

    private static void mend() {
        due("off", 0, x.mend(1, 0, -360));
        due("off again", -360, x.mend(1, 0, 359));
        due("the other clock", 0, x.of(0, 0));
        due("gain", 0, x.mend(0, 1, 9));
        due("gain again", 9, x.mend(0, 1, -9));
        due("err", 0, x.mend(0, 2, 9));
        due("w1 below w0", VOID, x.mend(0, 4, 9));
        due("w0 above w1", VOID, x.mend(0, 3, 21));
        due("w0 to w1", 10, x.mend(0, 3, 20));
        due("w1 to 99", 20, x.mend(0, 4, 99));
        due("w0 to 99", 20, x.mend(0, 3, 99));
        due("w1 above 99", VOID, x.mend(0, 4, 100));
        due("w0 to 0", 99, x.mend(0, 3, 0));
        due("w1 to 0", 99, x.mend(0, 4, 0));
        int[][] wrong = {{0, 0, 360}, {0, 0, -361}, {0, 1, 10}, {0, 1, -10}, {0, 2, -1}, {0, 2, 10}, {0, 3, -1},
            {2, 0, 0}, {-1, 0, 0}, {1, 2, 0}, {1, 3, 0}, {1, 4, 0}, {0, 5, 0}, {0, -1, 0},
            {Integer.MAX_VALUE, 1, 0}, {Integer.MIN_VALUE, 0, 0}, {0, Integer.MIN_VALUE, 0}};
        for (int[] w : wrong) {
            due("mend " + w[0] + " " + w[1] + " " + w[2], VOID, x.mend(w[0], w[1], w[2]));
        }
        due("what was refused changed nothing", 10, x.count(3));
        due("off", 359, x.of(1, 0));
        int[][] same = {{1, 0, 359}, {0, 0, 0}, {0, 1, -9}, {1, 1, 0}, {0, 2, 9}, {0, 3, 0}, {0, 4, 0}};
        for (int[] s : same) {
            due("the same again", s[2], x.mend(s[0], s[1], s[2]));
            due("is as it was", s[2], x.of(s[0], s[1]));
            due("is no change", 10, x.count(3));
        }
        due("the same again, and refused", VOID, x.mend(2, 0, 0));
    }

    private static void of() {
        x.mend(0, 0, 3);
        x.mend(1, 1, 4);
        x.mend(0, 2, 5);
        x.mend(0, 3, 6);
        x.mend(0, 4, 17);
        due("off", 3, x.of(0, 0));
        due("gain", 4, x.of(1, 1));
        due("err", 5, x.of(0, 2));
        due("w0", 6, x.of(0, 3));
        due("w1", 17, x.of(0, 4));
        x.sight(107, 809);
        x.gun(140, 33);
        int[][] told = {{10, 1}, {11, 7}, {12, 8}, {13, 9}, {20, 1}, {21, 40}, {22, 33}};
        for (int[] t : told) {
            due("of 0 " + t[0], t[1], x.of(0, t[0]));
            due("of 1 " + t[0], VOID, x.of(1, t[0]));
            due("of -1 " + t[0], VOID, x.of(-1, t[0]));
        }
        int[] wrong = {-1, 5, 9, 14, 19, 23, 24, Integer.MAX_VALUE, Integer.MIN_VALUE};
        for (int what : wrong) {
            due("of 0 " + what, VOID, x.of(0, what));
        }
        for (int what = 2; what < 5; what++) {
            due("of 1 " + what, VOID, x.of(1, what));
        }
        due("no clock", VOID, x.of(2, 0));
        due("no clock", VOID, x.of(-1, 1));
        x.forget();
        due("a sight that is none", VOID, x.of(0, 10));
    }

    private static void shown() {
        x.mend(0, 0, -5);
        x.mend(0, 1, -3);
        x.mend(1, 1, 9);
        due("cut toward 0", 28, x.shown(0, 33, 0));
        due("one lost", 28, x.shown(0, 34, 0));
        due("before the dial begins", 715, x.shown(0, 0, 0));
        due("its part", 59, x.shown(0, 0, 1));
        due("hour hand", 2, x.shown(0, 33, 1));
        due("gain", 11, x.shown(1, 11, 0));
        due("gain", 13, x.shown(1, 12, 0));
        due("other hand", 49, x.shown(1, 100, 1));
        due("round the dial", 31, x.shown(1, 689, 0));
        due("late", (99999 + 8999) % 720, x.shown(1, 99999, 0));
        due("no clock", BAD, x.shown(2, 0, 0));
        due("no clock", BAD, x.shown(-1, 0, 0));
        due("no minute", BAD, x.shown(0, -1, 0));
        due("no minute", BAD, x.shown(0, 100000, 0));
        due("no what", BAD, x.shown(0, 0, 2));
        due("no what", BAD, x.shown(0, 0, -1));
    }

    private static void feed() {
        due("below", BAD, x.feed(-1));
        due("above", BAD, x.feed(256));
        due("first", 1, x.feed(0));
        due("second", 2, x.feed(255));
        for (int i = 3; i <= 120; i++) {
            due("byte", i, x.feed(49));
        }
        due("full", FULL, x.feed(49));
        due("bad ahead of full", BAD, x.feed(256));
        due("count", 120, x.count(2));
    }

    private static void law() {
        Object[][] faults = {{"", 0}, {"t", -1}, {"t+", 2}, {"(t", 2}, {"t;", 2}, {"t?", 2}, {";t", 0}, {"t;;t", 2},
            {"t?t?t", 3}, {"(t?t)", 2}, {"t<t<t", 3}, {"t=t>t", 3}, {"t<t&t<t", -1}, {"(t<t)<t", -1}, {"1234", -1},
            {"12345", 4}, {"0000", -1}, {"00000", 4}, {"12t", 2}, {"tt", 1}, {"t1", 1}, {"x", 0}, {" t", 0},
            {"t )", 1}, {"t)", 1}, {"()", 1}, {"!!!!!!t", -1}, {"!!!!!!!t", 6}, {"------t", -1}, {"-------t", 6},
            {"((((((t))))))", -1}, {"(((((((t", 6}, {"!-(!-(t))", -1}, {"!-(!-(-t", 6}, {"!-(!-()", 6},
            {"((((((t))))))+((((((t))))))", -1}, {"!t+!t+!t+!t+!t+!t+!t+!t", -1}, {"(-(-(-1)))", -1},
            {"(!!!!!t)", -1}, {"(!!!!!!t)", 6}, {"(!!!t+!!!!!t)", -1}, {"(!!!t+!!!!!!t)", 11}, {"t--t", -1}, {"t++t", 2},
            {"t-", 2}, {"t**t", 2}, {"t|&t", 2}, {"t!t", 1}, {"T", 0}, {"t%h/m*s-e", -1}, {"1?2;3?4;5", -1},
            {"" + (char) 200, 0}, {"t" + (char) 0, 1}, {"t;t?t;t+", 8}, {"(t;t)", 2}, {"t=!t", -1}, {"t<-t", -1}};
        for (Object[] fault : faults) {
            int place = (Integer) fault[1];
            due("law " + fault[0], place < 0 ? 1 : -100 - place, law((String) fault[0]));
            due("the tape is empty", 0, x.count(2));
        }
        x = new OneHandEach();
        due("fault without a law", -101, law("7+")  + 1);
        due("still without a text", 1, x.weight(0));
        due("law", 1, law("7"));
        due("fault", -102, law("8+"));
        due("the law stays", 7, x.weight(0));
        due("no text", -100, x.law());
        due("the law stays", 7, x.weight(0));
        due("120 bytes", 1, law("1" + "+1".repeat(59) + "1"));
        due("its weight", 70, x.weight(0));
        due("too early", -220, law("1+".repeat(60)));
    }

    private static void weight() {
        due("no text", 1, x.weight(719));
        Object[][] laws = {{"t", 59, 59}, {"t", 200, 99}, {"t", 99, 99}, {"h", 659, 10}, {"m", 659, 59}, {"-1", 0, 0},
            {"0-5+7", 0, 2}, {"9-3-2", 0, 4}, {"90/7/2", 0, 6}, {"2+3*4", 0, 14}, {"(2+3)*4", 0, 20}, {"17%5*2", 0, 4},
            {"2*17%5", 0, 4}, {"-7/2+9", 0, 6}, {"9+(-7%4)", 0, 6}, {"5/0+3", 0, 3}, {"5%0+3", 0, 3},
            {"2|4", 0, 1}, {"0|0", 0, 0}, {"2&4", 0, 1}, {"2&0", 0, 0}, {"1|0&0", 0, 1}, {"0=0&7", 0, 1},
            {"3<4", 0, 1}, {"4<4", 0, 0}, {"4>3", 0, 1}, {"4>4", 0, 0}, {"4=4", 0, 1}, {"4=5", 0, 0},
            {"!0", 0, 1}, {"!7", 0, 0}, {"!!7*9", 0, 9}, {"!t+5", 0, 6}, {"--7", 0, 7}, {"-t+9", 4, 5},
            {"0?5", 0, 0}, {"1?5", 0, 5}, {"0?5;6", 0, 6}, {"1?5;6", 0, 5}, {"0-1?5;6", 0, 5}, {"0;6", 0, 0},
            {"t>5?9;t>3?8;t=3?7", 4, 8}, {"t>5?9;t>3?8;t=3?7", 3, 7}, {"t>5?9;t>3?8;t=3?7", 2, 0},
            {"1<2+3", 0, 1}, {"5-3<1", 0, 0}, {"t=3|t=5", 5, 1}, {"8|0?4", 0, 4}, {"s", 0, 0}, {"e", 0, 0},
            {"9999*9999*9999<0", 0, 1}, {"9999*9999*9999*0+42", 0, 42}, {"-(1-9)*2", 0, 16}, {"7-(-2)", 0, 9},
            {"7--2", 0, 9}, {"9*-2+20", 0, 2}, {"0007", 0, 7}, {"9999", 0, 99}};
        for (Object[] l : laws) {
            due((String) l[0] + " of " + l[1], (Integer) l[2], weighed((String) l[0], (Integer) l[1]));
        }
        weighed("s*10+e", 0);
        x.sight(0, 0);
        x.sight(0, 0);
        x.mend(0, 2, 3);
        due("sights and err", 23, x.weight(0));
        // 8192 * 8192 * 32 is -2147483648: by -1 it wraps, and leaves nothing.
        due("least by -1", 1, weighed("(8192*8192*32)/-1=(8192*8192*32)", 0));
        due("least by -1 left", 1, weighed("(8192*8192*32)%-1=0", 0));
        due("no time", BAD, x.weight(-1));
        due("no time", BAD, x.weight(720));
    }

    private static void sight() {
        int[][] wrong = {{-1, 0}, {60, 0}, {99, 0}, {160, 0}, {200, 0}, {0, -1}, {0, 100}, {0, 9998}, {0, 10000},
            {0, 201}, {Integer.MIN_VALUE, 0}, {Integer.MAX_VALUE, 0}, {0, Integer.MAX_VALUE}, {0, Integer.MIN_VALUE}};
        for (int[] w : wrong) {
            due("sight " + w[0] + " " + w[1], BAD, x.sight(w[0], w[1]));
        }
        due("none came", 0, x.count(0));
        due("first", 0, x.sight(159, 9999));
        due("second", 1, x.sight(59, 0));
        due("third", 2, x.sight(100, 99));
        due("clock", 1, x.of(0, 10));
        due("part", 59, x.of(0, 11));
        due("from", 99, x.of(0, 12));
        due("to", 99, x.of(2, 13));
        for (int i = 3; i < 8; i++) {
            due("sight", i, x.sight(0, 0));
        }
        due("full", FULL, x.sight(0, 0));
        due("bad ahead of full", BAD, x.sight(60, 0));
    }

    private static void lay(int shelf, int sort, int... values) {
        x.row(shelf, sort, values.length);
        for (int i = 0; i < values.length; i++) {
            x.put(shelf, i, values[i]);
        }
    }

    private static void sights() {
        due("no shelf", BAD, x.sights(6, 0, 1));
        due("no shelf", BAD, x.sights(-1, 0, 1));
        due("none of them", BAD, x.sights(0, 0, 0));
        due("nine of them", BAD, x.sights(0, 0, 9));
        due("nothing there", 0, x.sights(0, 0, 8));
        lay(1, 1, 0, 0, 0, 0);
        due("shorts", -12, x.sights(1, 0, 1));
        due("shorts, below 0", -12, x.sights(1, -1, 1));
        due("bad first", BAD, x.sights(1, 0, 0));
        x.body(0);
        x.keep(2, 0);
        due("a body", -12, x.sights(2, 0, 1));
        lay(3, 0, 7, 0, 15, 0, 0, 1, 59, 10, 99, 0, 60, 0, 0, 1, 1);
        due("below 0", 0, x.sights(3, -1, 1));
        due("below 0", 0, x.sights(3, Integer.MIN_VALUE, 8));
        due("beyond", 0, x.sights(3, 15, 1));
        due("beyond", 0, x.sights(3, Integer.MAX_VALUE, 8));
        due("within a four", 0, x.sights(3, 12, 1));
        due("from 1 on, till one is not as it may be", 2, x.sights(3, 1, 8));
        due("count", 2, x.count(0));
        due("first", 15, x.of(0, 11));
        due("second", 99, x.of(1, 13));
        due("just one", 1, x.sights(3, 5, 1));
        lay(4, 0, 0, 0, 0, 0, 0, 0, 5);
        due("ends within a four", 1, x.sights(4, 0, 2));
        lay(4, 0, 0, 0, 0, 0, 0, 0, 5, 4, 0, 0, 0, 0);
        due("from above to", 1, x.sights(4, 0, 3));
        lay(4, 0, 2, 0, 0, 0);
        due("no clock", 0, x.sights(4, 0, 1));
        lay(4, 0, 0, -1, 0, 0);
        due("no part", 0, x.sights(4, 0, 1));
        lay(4, 0, 0, 0, 0, 100);
        due("to above 99", 0, x.sights(4, 0, 1));
        lay(4, 0, 0, 0, -1, 0);
        due("from below 0", 0, x.sights(4, 0, 1));
        lay(4, 0, 0, 0, 0, 0, 1, 59, 99, 99);
        due("to the row's very end", 2, x.sights(4, 0, 3));
        x.forget();
        x.forget();
        x.row(5, 0, 60);
        due("till full", 3, x.sights(5, 0, 8));
        due("full", 0, x.sights(5, 0, 8));
        due("count", 8, x.count(0));
    }

    private static void forget() {
        due("none", STATE, x.forget());
        x.sight(1, 0);
        x.sight(2, 0);
        due("one left", 1, x.forget());
        due("the first stays", 1, x.of(0, 11));
        due("next comes behind it", 1, x.sight(3, 0));
        due("its part", 3, x.of(1, 11));
        x.forget();
        due("none left", 0, x.forget());
        due("none", STATE, x.forget());
    }

    private static void fits() {
        due("all", 720, x.fits(-1));
        due("the last", 719, x.fits(719));
        due("no more", NOT, x.fits(720));
        due("no more", NOT, x.fits(Integer.MAX_VALUE));
        due("below", BAD, x.fits(-2));
        x.sight(110, 0);
        due("one each hour", 12, x.fits(-1));
        due("third", 130, x.fits(2));
        x.sight(10, 0);
        due("both", 1, x.fits(-1));
        due("the one", 130, x.fits(0));
        x.mend(0, 2, 1);
        due("near", 3, x.fits(-1));
        due("near", 129, x.fits(0));
        due("near", 131, x.fits(2));
        x.forget();
        x.forget();
        x.sight(100, 0);
        due("round the dial", 36, x.fits(-1));
        due("round the dial", 59, x.fits(2));
        x.mend(0, 2, 0);
        x.forget();
        x.sight(30, 99);
        // Part 30 of the hour hand is there from 360 to 371: at some minute from 0 to 99 behind.
        due("some minute behind", 111, x.fits(-1));
        due("some minute behind", 261, x.fits(0));
        due("some minute behind", 371, x.fits(110));
        x.forget();
        x.sight(0, 9999);
        due("behind midnight", 12, x.fits(-1));
        due("behind midnight", 621, x.fits(0));
        x.mend(0, 0, 10);
        due("off", 611, x.fits(0));
    }

    private static void chance() {
        due("half", 1, x.chance(359, 0));
        due("half", 2, x.chance(359, 1));
        due("one", 1, x.chance(5005, 0));
        due("of 720", 720, x.chance(5005, 1));
        due("all", 1, x.chance(719, 0));
        due("all", 1, x.chance(719, 1));
        x.sight(110, 0);
        due("the first minute", 1, new OneHandEach().chance(0, 0));
        due("the first minute", 720, new OneHandEach().chance(0, 1));
        due("none there", 0, x.chance(11069, 0));
        due("none there", 1, x.chance(11069, 1));
        law("h");
        // Weights 0 .. 11 of twelve times: 66 in all; from 3 to 5: 12.
        due("by weights", 2, x.chance(180359, 0));
        due("by weights", 11, x.chance(180359, 1));
        law("0");
        due("no weight at all", 0, x.chance(719, 0));
        due("no weight at all", 1, x.chance(719, 1));
        law("t=130");
        due("a weight of 1 in all", 1, x.chance(130130, 0));
        due("a weight of 1 in all", 1, x.chance(130130, 1));
        int[] wrong = {-1, 720, 1000, 5004, 719720, 720720, Integer.MAX_VALUE, Integer.MIN_VALUE};
        for (int ab : wrong) {
            due("chance " + ab, BAD, x.chance(ab, 0));
        }
        due("no part", BAD, x.chance(0, 2));
        due("no part", BAD, x.chance(0, -1));
    }

    private static void likely() {
        due("the first", 0, x.likely());
        law("t=77|t=99");
        due("the greatest", 77, x.likely());
        x.sight(130, 0);
        due("none has a weight: the first", 30, x.likely());
        law("h=3?5;h=7?9;h=8?9;1");
        due("of like ones the first", 450, x.likely());
        x.sight(131, 0);
        due("none fits", NOT, x.likely());
    }

    private static void tells() {
        due("no sight", BAD, x.tells(0));
        x.sight(110, 0);
        x.sight(10, 0);
        due("without the first", 11, x.tells(0));
        due("without the second", 11, x.tells(1));
        x.sight(10, 0);
        due("said twice", 0, x.tells(1));
        due("no sight", BAD, x.tells(3));
        due("no sight", BAD, x.tells(-1));
        due("they stay", 3, x.count(0));
    }

    private static void next() {
        due("of like ones clock 0", 0, x.next(0, 0));
        due("how many", 12, x.next(0, 1));
        x.sight(110, 0);
        due("the hour hand parts them", 0, x.next(7, 0));
        due("one each", 1, x.next(7, 1));
        x.forget();
        x.sight(10, 0);
        due("the other hand parts them", 1, x.next(99, 0));
        due("one each", 1, x.next(99, 1));
        x.sight(11, 0);
        due("none fits", NOT, x.next(0, 0));
        due("none fits", NOT, x.next(0, 1));
        due("bad ahead", BAD, x.next(100, 0));
        due("bad ahead", BAD, x.next(-1, 0));
        due("bad ahead", BAD, x.next(0, 2));
        due("bad ahead", BAD, x.next(0, -1));
        x.forget();
        x.forget();
        x.sight(11, 0);
        x.sight(100, 11);
        // From 132 to 143 the other hand comes to 0 only within the next twelve minutes: none does.
        due("none", NOT, x.next(0, 0));
        x.forget();
        x.mend(0, 2, 9);
        due("near ones fit", 228, x.fits(-1));
    }

    private static void lot() {
        due("none", BAD, x.lot(1, 0, 0));
        due("21", BAD, x.lot(1, 21, 0));
        due("below", BAD, x.lot(1, Integer.MIN_VALUE, 0));
        due("no what", BAD, x.lot(1, 1, 2));
        due("no what", BAD, x.lot(1, 1, -1));
        due("told", 17, x.lot(1, 3, 0));
        x.mend(0, 3, 0);
        x.mend(0, 4, 0);
        due("no walk: each knows the minute", 20, x.lot(-5, 20, 0));
        due("each is one time", 20, x.lot(-5, 20, 1));
        due("one walker", 1, x.lot(7, 1, 0));
        x.mend(0, 2, 1);
        due("near ones are more", 0, x.lot(7, 1, 1));
        due("three near minutes, of fourteen and more by the hour hand", 3, x.lot(7, 1, 0));
        x.mend(0, 2, 0);
        x.sight(0, 0);
        due("no other sights", 20, x.lot(-5, 20, 0));
        due("no sight is kept", 1, x.count(0));
    }

    private static void gun() {
        int[][] wrong = {{-1, 0}, {41, 0}, {99, 0}, {141, 0}, {200, 0}, {0, -1}, {0, 60}, {Integer.MAX_VALUE, 0},
            {Integer.MIN_VALUE, 0}};
        for (int[] w : wrong) {
            due("gun " + w[0] + " " + w[1], BAD, x.gun(w[0], w[1]));
        }
        due("first", 0, x.gun(140, 59));
        due("second", 1, x.gun(40, 0));
        due("clock", 1, x.of(0, 20));
        due("day", 40, x.of(0, 21));
        due("part", 59, x.of(0, 22));
        for (int i = 2; i < 10; i++) {
            due("gun", i, x.gun(0, 0));
        }
        due("full", FULL, x.gun(0, 0));
        due("bad ahead of full", BAD, x.gun(0, 60));
        due("count", 10, x.count(1));
    }

    private static void guess() {
        due("all", 1159, x.guess(0, 0));
        due("first off", -30, x.guess(0, 1));
        due("first gain", -9, x.guess(1, 2));
        x.gun(100, 5);
        due("of the other clock", 1159, x.guess(0, 0));
        due("off 5, all gains", 19, x.guess(1, 0));
        due("its off", 5, x.guess(1, 1));
        due("its first gain", -9, x.guess(1, 2));
        due("least off", 5, x.guess(1, 3));
        due("greatest off", 5, x.guess(1, 4));
        due("least gain", -9, x.guess(1, 5));
        due("greatest gain", 9, x.guess(1, 6));
        x.gun(101, 19);
        // 5 + 720 * gain / 100 is 19 by gain 2 (14.4).
        due("just one", 1, x.guess(1, 0));
        due("its gain", 2, x.guess(1, 2));
        x.mend(0, 2, 1);
        due("near", 3, x.guess(1, 0));
        due("near", 4, x.guess(1, 3));
        due("near", 6, x.guess(1, 4));
        due("near", 4, x.guess(1, 1));
        due("near", 2, x.guess(1, 5));
        due("near", 2, x.guess(1, 6));
        x.gun(100, 40);
        due("none", 0, x.guess(1, 0));
        for (int what = 1; what < 7; what++) {
            due("none", NOT, x.guess(1, what));
        }
        x = new OneHandEach();
        x.gun(100, 40);
        due("far behind", 19, x.guess(1, 0));
        due("greatest off", -20, x.guess(1, 4));
        due("no clock", VOID, x.guess(2, 0));
        due("no clock", VOID, x.guess(-1, 0));
        due("no what", VOID, x.guess(0, 7));
        due("no what", VOID, x.guess(0, -1));
    }

    private static void liars() {
        due("no clock", BAD, x.liars(2));
        due("no clock", BAD, x.liars(-1));
        due("no guns", 0, x.liars(0));
        x.gun(0, 0);
        x.gun(100, 10);
        x.gun(100, 20);
        due("of like ones the least", 2, x.liars(1));
        x.gun(100, 20);
        due("the fewest", 2, x.liars(1));
        x.gun(100, 10);
        x.gun(100, 10);
        due("the fewest", 12, x.liars(1));
        due("the other clock", 0, x.liars(0));
        x.gun(0, 30);
        due("no guess for it", 64, x.liars(0));
        due("the guns stay", 7, x.count(1));
        x = new OneHandEach();
        x.gun(100, 30);
        due("by the least and the greatest off", 0, x.liars(1));
        x.gun(100, 31);
        due("31 is off -29, so either lies: the least", 1, x.liars(1));
    }

    private static void agree() {
        due("always", 1441, x.agree(0, 1440, 0));
        x.mend(0, 1, 5);
        // Alike as long as the one has gained nothing: till minute 19, and once it has gained 720, from 14400 on.
        due("till 19", 20, x.agree(0, 1440, 0));
        due("from 7", 7, x.agree(7, 7, 1));
        due("none", 0, x.agree(20, 1460, 0));
        due("none", NOT, x.agree(20, 1460, 1));
        due("again", 20, x.agree(14000, 15000, 0));
        due("again", 14400, x.agree(14000, 15000, 1));
        due("one minute", 1, x.agree(19, 19, 0));
        int[][] wrong = {{-1, 0, 0}, {0, 1441, 0}, {5, 4, 0}, {0, 0, 2}, {0, 0, -1}, {99999, 100000, 0},
            {100000, 100000, 0}, {0, Integer.MAX_VALUE, 0}, {Integer.MAX_VALUE, Integer.MIN_VALUE, 0}};
        for (int[] w : wrong) {
            due("agree " + w[0] + " " + w[1] + " " + w[2], BAD, x.agree(w[0], w[1], w[2]));
        }
    }

    private static void meet() {
        due("at once", 5, x.meet(5, 0, 0));
        due("the next hour", 60, x.meet(5, 0, 1));
        due("apart", 55, x.meet(5, 0, 2));
        due("minute 0", 0, x.meet(0, 0, 0));
        due("minute 0", 0, x.meet(0, 0, 1));
        due("p", 360, x.meet(5, 3000, 0));
        due("q", 30, x.meet(5, 30, 1));
        due("half a day on", 720, x.meet(12, 0, 0));
        due("beyond the last minute", 100020, x.meet(99999, 0, 1));
        x.mend(1, 0, 5);
        due("off", 55, x.meet(5, 0, 1));
        int[][] wrong = {{-1, 0, 0}, {100000, 0, 0}, {0, -1, 0}, {0, 60, 0}, {0, 6000, 0}, {0, 5960, 0}, {0, 0, 3},
            {0, 0, -1}, {0, Integer.MAX_VALUE, 0}, {0, Integer.MIN_VALUE, 0}};
        for (int[] w : wrong) {
            due("meet " + w[0] + " " + w[1] + " " + w[2], BAD, x.meet(w[0], w[1], w[2]));
        }
    }

    private static void round() {
        due("right", 720, x.round(0, 0));
        x.mend(0, 1, 9);
        x.mend(1, 1, -1);
        due("12 * 9 / 100 is 1", 11, x.round(0, 0));
        due("678 * 9 / 100 is 61", 677, x.round(0, 60));
        due("backward, too", 99, x.round(1, 0));
        due("backward, too", 699, x.round(1, 6));
        due("never out by more", 720, x.round(1, 7));
        x.mend(0, 1, 5);
        due("720 * 5 / 100 is 36", 719, x.round(0, 35));
        due("720 * 5 / 100 is 36", 720, x.round(0, 36));
        due("no clock", BAD, x.round(2, 0));
        due("no clock", BAD, x.round(-1, 0));
        due("no x", BAD, x.round(0, -1));
        due("no x", BAD, x.round(0, 61));
    }

    private static void set() {
        x.mend(1, 0, 359);
        x.mend(0, 1, 9);
        due("off", 269, x.set(0, 1000));
        due("both alike", x.shown(1, 1000, 0), x.shown(0, 1000, 0));
        due("of", 269, x.of(0, 0));
        due("no change", 2, x.count(3));
        x.mend(0, 1, 0);
        x.mend(0, 0, -360);
        due("least", -360, x.set(1, 7));
        x.mend(0, 0, 359);
        due("greatest", 359, x.set(1, 7));
        due("no clock", VOID, x.set(2, 0));
        due("no clock", VOID, x.set(-1, 0));
        due("no minute", VOID, x.set(0, -1));
        due("no minute", VOID, x.set(0, 100000));
        due("how often", 2, x.led(1, 0));
        due("a set is no change", 4, x.undo());
        due("and leaves those undone", 0, x.set(1, 8) - x.of(0, 0));
        due("done again", 0, x.redo());
    }

    private static void led() {
        due("never", 0, x.led(1, 0));
        due("never", NOT, x.led(1, 1));
        x.set(1, 0);
        due("at 0", 0, x.led(1, 1));
        x.set(1, 500);
        x.set(1, 300);
        due("thrice", 3, x.led(1, 0));
        due("the latest", 300, x.led(1, 1));
        due("not the other", 0, x.led(0, 0));
        due("not the other", NOT, x.led(0, 1));
        due("no clock", BAD, x.led(2, 0));
        due("no clock", BAD, x.led(-1, 0));
        due("no what", BAD, x.led(0, 2));
        due("no what", BAD, x.led(0, -1));
    }

    private static void judge() {
        due("no shelf", BAD, x.judge(6));
        due("no shelf", BAD, x.judge(-1));
        due("nothing", -11, x.judge(0));
        x.row(0, 2, 3);
        due("ints", -12, x.judge(0));
        x.body(0);
        x.keep(0, 0);
        due("a body", -12, x.judge(0));
        x.row(0, 1, 0);
        due("no three", NOT, x.judge(0));
        lay(0, 1, 0, 24, 2, 1, 24, 24, 1, 32767, 7);
        due("all so", NOT, x.judge(0));
        x.put(0, 8, 8);
        due("not that part", 2, x.judge(0));
        x.mend(0, 2, 9);
        due("near is not so", 2, x.judge(0));
        x.put(0, 4, -1);
        due("a minute below 0", 1, x.judge(0));
        x.put(0, 0, 2);
        due("no clock", 0, x.judge(0));
        x.put(0, 0, -1);
        due("no clock", 0, x.judge(0));
        lay(0, 1, 0, 24, 2, 0);
        due("an end that lacks", 1, x.judge(0));
        lay(0, 1, 0, 24, 2, 0, 0);
        due("an end that lacks", 1, x.judge(0));
        x.mend(0, 0, 12);
        due("by what is shown", 0, x.judge(0));
    }

    private static void image() {
        due("no sights", 0, x.image());
        x.sight(3, 0);
        due("one", 1, x.image());
        x.sight(4, 0);
        due("the later one", 1, x.back());
    }

    private static void back() {
        due("none", STATE, x.back());
        x.sight(3, 5);
        x.gun(104, 7);
        x.mend(1, 0, 50);
        x.mend(0, 1, 2);
        x.set(0, 100);
        int off = x.of(0, 0);
        due("image", 1, x.image());
        x.forget();
        x.sight(9, 9);
        x.sight(8, 8);
        x.gun(5, 5);
        x.mend(0, 0, -7);
        x.mend(1, 0, -7);
        x.mend(0, 1, 3);
        x.mend(0, 2, 4);
        x.mend(0, 3, 1);
        x.set(0, 200);
        x.set(1, 300);
        x.undo();
        due("laid back", 1, x.back());
        due("sights", 3, x.of(0, 11));
        due("sights", 5, x.of(0, 13));
        due("sights", 1, x.count(0));
        due("guns", 1, x.count(1));
        due("guns", 7, x.of(0, 22));
        due("off", off, x.of(0, 0));
        due("off", 50, x.of(1, 0));
        due("led", 1, x.led(0, 0));
        due("led", 100, x.led(0, 1));
        due("led", NOT, x.led(1, 1));
        due("gain is not in it", 3, x.of(0, 1));
        due("err is not in it", 4, x.of(0, 2));
        due("no change", 6, x.count(3));
        due("what was undone can be done again", 0, x.redo());
        x.forget();
        x.set(1, 5);
        due("the image stays", 1, x.back());
        due("and keeps its own", 0, x.led(1, 0));
    }

    private static void undo() {
        due("none", STATE, x.undo());
        x.mend(0, 0, 5);
        x.mend(1, 1, 6);
        x.mend(0, 2, 7);
        x.mend(0, 4, 30);
        x.mend(0, 3, 25);
        due("w0", 4, x.undo());
        due("w0", 10, x.of(0, 3));
        due("w1", 3, x.undo());
        due("w1", 20, x.of(0, 4));
        due("err", 2, x.undo());
        due("err", 0, x.of(0, 2));
        due("gain", 1, x.undo());
        due("gain", 0, x.of(1, 1));
        due("off", 0, x.undo());
        due("off", 0, x.of(0, 0));
        due("none", STATE, x.undo());
        for (int i = 1; i <= 45; i++) {
            x.mend(0, 0, i);
            due("kept", Math.min(i, 40), x.count(3));
        }
        for (int i = 39; i >= 0; i--) {
            due("undone", i, x.undo());
            due("off", i + 5, x.of(0, 0));
        }
        due("none", STATE, x.undo());
        sameIsNotUndone();
    }

    private static void sameIsNotUndone() {
        x = new OneHandEach();
        x.mend(0, 2, 0);
        due("the same alone is no change", STATE, x.undo());
        x.mend(0, 1, 3);
        x.mend(0, 2, 0);
        x.mend(0, 1, 3);
        due("the change ahead of the same", 0, x.undo());
        due("gain", 0, x.of(0, 1));
        for (int i = 1; i <= 40; i++) {
            x.mend(0, 0, i);
        }
        for (int i = 0; i < 5; i++) {
            x.mend(0, 0, 40);
        }
        due("the same pushes none of the forty out", 40, x.count(3));
        for (int i = 39; i >= 0; i--) {
            due("undone", i, x.undo());
        }
        due("off as ahead of all", 0, x.of(0, 0));
        x.mend(0, 0, 5);
        x.mend(1, 0, 9);
        x.set(0, 0);
        due("the same as SET made it", 9, x.mend(0, 0, 9));
        due("is no change", 2, x.count(3));
        due("what SET made another is one", 9, x.mend(0, 0, 5));
        due("changes", 3, x.count(3));
    }

    private static void redo() {
        due("none", STATE, x.redo());
        x.mend(0, 0, 5);
        x.mend(1, 1, 6);
        x.mend(0, 2, 7);
        due("none", STATE, x.redo());
        x.undo();
        x.undo();
        x.undo();
        due("off", 2, x.redo());
        due("off", 5, x.of(0, 0));
        due("gain", 1, x.redo());
        due("gain", 6, x.of(1, 1));
        due("a refused one is none", VOID, x.mend(0, 2, 10));
        x.set(0, 0);
        due("err", 0, x.redo());
        due("err", 7, x.of(0, 2));
        due("none", STATE, x.redo());
        x.undo();
        x.undo();
        x.mend(0, 2, 0);
        x.mend(1, 1, 0);
        x.mend(1, 0, 0);
        due("the same is no other that came behind", 1, x.redo());
        due("gain", 6, x.of(1, 1));
        x.undo();
        x.mend(0, 2, 1);
        due("another came behind", STATE, x.redo());
        due("changes", 2, x.count(3));
    }

    private static void body() {
        due("no kind", BAD, x.body(8));
        due("no kind", BAD, x.body(-1));
        for (int i = 0; i < 50; i++) {
            due("body", i, x.body(i % 8));
        }
        due("full", FULL, x.body(0));
        due("bad ahead of full", BAD, x.body(8));
        due("count", 50, x.count(4));
    }

    private static void traced(String call, int... numbers) {
        due(call + " ran", numbers.length, x.count(5));
        for (int i = 0; i < numbers.length; i++) {
            due(call + " trace " + i, numbers[i], x.trace(i));
        }
        due(call + " no more", BAD, x.trace(numbers.length));
    }

    private static void act() {
        for (int kind = 0; kind < 8; kind++) {
            x.body(kind);
        }
        // By body and act, with 5: worked out by hand.
        int[][] due = {{5, 10, 5, 9}, {9, 18, 4, 18}, {7, -14, 7, -17}, {8, -18, 18, -24}, {12, 24, 1, 22},
            {10, -22, -7, -26}, {22, 44, 3, 37}, {23, 51, 2, 45}};
        for (int body = 0; body < 8; body++) {
            for (int act = 0; act < 4; act++) {
                due("act " + body + " " + act, due[body][act], x.act(body, act, 5));
            }
        }
        due("wraps", Integer.MIN_VALUE + 2, x.act(3, 0, Integer.MAX_VALUE));
        due("wraps", -2, x.act(0, 1, Integer.MAX_VALUE));
        due("ran", 2, x.count(5));
        due("no body", 0, x.act(8, 0, 5));
        due("no trace", 0, x.count(5));
        x.act(0, 1, 5);
        due("no body", 0, x.act(-1, 0, 5));
        due("no trace", 0, x.count(5));
        x.act(0, 1, 5);
        due("no act", 0, x.act(0, 4, 5));
        due("no trace", BAD, x.trace(0));
        x.act(0, 1, 5);
        due("no act", 0, x.act(0, -1, 5));
        due("no trace", 0, x.count(5));
    }

    private static void trace() {
        due("none yet", BAD, x.trace(0));
        for (int kind = 0; kind < 8; kind++) {
            x.body(kind);
        }
        x.act(0, 3, 1);
        traced("HAND tells", 2, 10, 1, 11);
        x.act(1, 1, 1);
        traced("HOUR parts", 10, 20, 1);
        x.act(2, 3, 1);
        traced("HILL tells", 2, 30, 10, 1, 11);
        x.act(3, 3, 1);
        traced("FOG tells", 2, 41, 30, 10, 1, 40, 11);
        x.act(4, 3, 1);
        traced("NOON tells", 50, 2, 10, 20, 1, 11);
        x.act(5, 3, 1);
        traced("LATE tells", 61, 2, 41, 30, 10, 1, 60, 40, 11, 1);
        x.act(6, 1, 1);
        traced("BOY parts", 10, 70, 1);
        x.act(7, 3, 1);
        traced("LOVER tells", 2, 80, 10, 81, 70, 1, 11, 11);
        due("below", BAD, x.trace(-1));
        due("24", BAD, x.trace(24));
        due("far", BAD, x.trace(Integer.MAX_VALUE));
    }

    private static void keep() {
        x.body(3);
        due("no shelf", BAD, x.keep(6, 0));
        due("no shelf", BAD, x.keep(-1, 0));
        due("no body", BAD, x.keep(0, 1));
        due("no body", BAD, x.keep(0, -2));
        due("nothing there yet", -11, x.taken(0, 3));
        due("a body", 1, x.keep(0, 0));
        due("its kind", 3, x.taken(0, 3));
        due("nothing", 1, x.keep(0, -1));
        due("nothing there", -11, x.taken(0, 3));
        x.row(5, 0, 3);
        due("in place of a row", 1, x.keep(5, 0));
        due("its kind", 3, x.taken(5, 0));
        due("no row", -12, x.put(5, 0, 1));
    }

    private static void row() {
        int[][] wrong = {{-1, 0, 1}, {6, 0, 1}, {0, -1, 1}, {0, 5, 1}, {0, 0, 61}, {6, 0, -1}, {0, 5, -1},
            {0, 0, Integer.MAX_VALUE}};
        for (int[] w : wrong) {
            due("row " + w[0] + " " + w[1] + " " + w[2], BAD, x.row(w[0], w[1], w[2]));
        }
        due("below 0", -14, x.row(0, 0, -1));
        due("below 0", -14, x.row(0, 4, Integer.MIN_VALUE));
        due("nothing there yet", -11, x.put(0, 0, 1));
        due("none", 1, x.row(0, 0, 0));
        due("no place", -13, x.put(0, 0, 1));
        due("sixty", 1, x.row(0, 3, 60));
        due("the last place", 1, x.put(0, 59, -8));
        due("what is refused changes nothing", -14, x.row(0, 0, -1));
        due("the last place", -8, x.element(0, 59));
        due("anew", 1, x.row(0, 3, 60));
        due("all 0", 0, x.element(0, 59));
    }

    private static void put() {
        due("no shelf", BAD, x.put(6, 0, 1));
        due("no shelf", BAD, x.put(-1, 0, 1));
        due("nothing", -11, x.put(0, 0, 1));
        x.body(0);
        x.keep(0, 0);
        due("a body", -12, x.put(0, 0, 1));
        x.row(0, 0, 2);
        due("no place", -13, x.put(0, -1, 1));
        due("no place", -13, x.put(0, 2, 1));
        due("no place", -13, x.put(0, Integer.MAX_VALUE, 1));
        due("a place", 1, x.put(0, 1, 1));
        long v = 0x123456789ABCDEF0L;
        long[] kept = {(byte) v, (short) v, (int) v, v, 1};
        for (int sort = 0; sort < 5; sort++) {
            x.row(sort, sort, 3);
            due("put", 1, x.put(sort, 1, v));
            due("kept by sort " + sort, kept[sort], x.element(sort, 1));
            due("put", 1, x.put(sort, 1, -1));
            due("kept by sort " + sort, sort == 4 ? 1 : -1, x.element(sort, 1));
            due("put", 1, x.put(sort, 1, 256L * 65536 * 65536));
            due("kept by sort " + sort, sort == 3 ? 256L * 65536 * 65536 : sort == 4 ? 1 : 0, x.element(sort, 1));
            due("put", 1, x.put(sort, 1, 0));
            due("kept by sort " + sort, 0, x.element(sort, 1));
        }
    }

    private static void element() {
        long none = Long.MIN_VALUE;
        due("no shelf", none, x.element(6, 0));
        due("no shelf", none, x.element(-1, 0));
        due("nothing", none, x.element(0, 0));
        x.body(0);
        x.keep(0, 0);
        due("a body", none, x.element(0, 0));
        x.row(0, 3, 2);
        due("no place", none, x.element(0, 2));
        due("no place", none, x.element(0, -1));
        due("at first", 0, x.element(0, 1));
        x.put(0, 1, Long.MAX_VALUE);
        due("a long", Long.MAX_VALUE, x.element(0, 1));
    }

    private static void elements(String call, int shelf, int... due) {
        for (int i = 0; i < due.length; i++) {
            due(call + " at " + i, due[i], x.element(shelf, i));
        }
    }

    private static void shift() {
        lay(0, 2, 1, 2, 3, 4, 5);
        lay(1, 2, 7, 8, 9);
        due("to another", 2, x.shift(0, 1, 1, 1, 2));
        elements("to another", 1, 7, 2, 3);
        due("up within itself", 4, x.shift(0, 0, 0, 1, 4));
        elements("up within itself", 0, 1, 1, 2, 3, 4);
        due("down within itself", 3, x.shift(0, 2, 0, 0, 3));
        elements("down within itself", 0, 2, 3, 4, 3, 4);
        due("none of them, at both ends", 0, x.shift(0, 5, 1, 3, 0));
        due("none of them, beyond", -13, x.shift(0, 6, 1, 0, 0));
        due("none of them, beyond", -13, x.shift(0, 0, 1, 4, 0));
        int[][] wrong = {{-1, 0, 1}, {0, -1, 1}, {0, 0, -1}, {0, 0, 4}, {0, 3, 1}, {3, 0, 3}, {5, 0, 1},
            {Integer.MAX_VALUE, 0, 1}, {1, 1, Integer.MAX_VALUE}, {0, 0, Integer.MIN_VALUE}};
        for (int[] w : wrong) {
            due("shift " + w[0] + " " + w[1] + " " + w[2], -13, x.shift(0, w[0], 1, w[1], w[2]));
        }
        elements("what is refused changes nothing", 1, 7, 2, 3);
        due("no shelf", BAD, x.shift(6, 0, 1, 0, 1));
        due("no shelf", BAD, x.shift(0, 0, -1, 0, 1));
        due("nothing", -11, x.shift(0, 0, 2, 0, 1));
        due("nothing", -11, x.shift(2, 0, 0, 0, 1));
        x.body(0);
        x.keep(3, 0);
        due("nothing ahead of a body", -11, x.shift(3, 0, 2, 0, 1));
        due("a body", -12, x.shift(3, 0, 0, 0, 1));
        due("a body", -12, x.shift(0, 0, 3, 0, 1));
        x.row(4, 3, 3);
        due("unlike sorts", -12, x.shift(0, 0, 4, 0, 1));
        due("unlike sorts ahead of places", -12, x.shift(0, -1, 4, 0, 1));
    }

    private static void taken() {
        int[] above = {-1, 0, 0, 2, 1, 3, 0, 6};
        due("no shelf", BAD, x.taken(6, 0));
        due("no shelf", BAD, x.taken(-1, 0));
        due("no kind", BAD, x.taken(0, 8));
        due("no kind", BAD, x.taken(0, -1));
        due("nothing", -11, x.taken(0, 0));
        x.row(0, 0, 1);
        due("a row", -12, x.taken(0, 0));
        for (int kind = 7; kind >= 0; kind--) {
            x.keep(1, x.body(kind));
            for (int k = 0; k < 8; k++) {
                boolean under = false;
                for (int up = kind; up >= 0; up = above[up]) {
                    under = under || up == k;
                }
                due("kind " + kind + " for " + k, under ? kind : -12, x.taken(1, k));
            }
        }
    }

    private static void count() {
        x.sight(0, 0);
        x.gun(0, 0);
        x.gun(0, 0);
        x.feed(1);
        x.feed(1);
        x.feed(1);
        x.mend(0, 0, 0);
        due("no change yet", 0, x.count(3));
        for (int i = 1; i <= 4; i++) {
            x.mend(0, 0, i);
            x.mend(0, 0, i);
        }
        for (int i = 0; i < 5; i++) {
            x.body(i);
        }
        x.act(0, 3, 7);
        due("sights", 1, x.count(0));
        due("guns", 2, x.count(1));
        due("bytes", 3, x.count(2));
        due("changes", 4, x.count(3));
        due("bodies", 5, x.count(4));
        due("ran", 4, x.count(5));
        due("no what", BAD, x.count(6));
        due("no what", BAD, x.count(-1));
    }
}
