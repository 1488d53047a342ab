import java.util.List;
import java.util.function.Supplier;
import java.util.function.ToLongFunction;

/**
 * "What is answered so changes nothing", and no more does what only asks: behind each such call an object
 * answers as one that was made alike and was not called so. Of several refusals the one named first is answered.
 */
public final class RefusedTest {
    private static final int BAD = -1, NOT = -2, FULL = -3, STATE = -5, VOID = -2000000000;
    private static final int LEAST = Integer.MIN_VALUE, GREATEST = Integer.MAX_VALUE;
    private static Supplier<OneHandEach> made;
    private static List<Long> unasked;
    private static int calls = 0;

    public static void main(String[] args) {
        given("a new one", OneHandEach::new);
        outside();
        askedOfNone();
        given("some", Steps::some);
        outside();
        asked();
        places();
        given("a full one", Steps::full);
        outside();
        beyondFull();
        given("a full tape", Steps::withFullTape);
        refused("feed 0", FULL, x -> x.feed(0));
        refused("feed -1", BAD, x -> x.feed(-1));
        refused("feed 256", BAD, x -> x.feed(256));
        given("none fits", RefusedTest::noneFits);
        whereNoneFits();
        given("all undone", RefusedTest::allUndone);
        refused("undo", STATE, x -> x.undo());
        refused("mend", VOID, x -> x.mend(0, 0, 360));
        refused("mend to what it was", 0, x -> x.mend(1, 0, 0));
        actsAndLaws();
        Due.that("some hundred calls", calls > 500);
        Due.end();
    }

    private static void given(String what, Supplier<OneHandEach> supplier) {
        Due.about("refused, " + what);
        made = supplier;
        unasked = Probe.of(made.get());
        Due.that("is the same each time", unasked.equals(Probe.of(made.get())));
    }

    private static void refused(String call, long want, ToLongFunction<OneHandEach> made) {
        OneHandEach x = RefusedTest.made.get();
        Due.due(call, want, made.applyAsLong(x));
        same(call, x);
    }

    private static void asked(String call, ToLongFunction<OneHandEach> made) {
        OneHandEach x = RefusedTest.made.get();
        long first = made.applyAsLong(x);
        Due.due(call + " twice", first, made.applyAsLong(x));
        same(call, x);
    }

    private static void same(String call, OneHandEach x) {
        calls++;
        Due.that(call + " changes nothing", unasked.equals(Probe.of(x)));
    }

    /** What is no such number, or is not as said, whatever is there. */
    private static void outside() {
        int[][] mends = {{0, 0, 360}, {1, 0, -361}, {0, 1, 10}, {1, 1, -10}, {0, 2, -1}, {0, 2, 10}, {0, 3, -1}, {0, 3, 100},
            {0, 4, -1}, {0, 4, 100}, {2, 0, 5}, {-1, 1, 5}, {1, 2, 5}, {1, 3, 5}, {1, 4, 50}, {0, 5, 5}, {0, -1, 5},
            {LEAST, 0, 5}, {GREATEST, 1, 5}, {0, 0, GREATEST}, {0, 1, LEAST}};
        for (int[] m : mends) {
            refused("mend " + m[0] + " " + m[1] + " " + m[2], VOID, x -> x.mend(m[0], m[1], m[2]));
        }
        for (int no : new int[] {-1, 60, 160, 200, LEAST, GREATEST}) {
            refused("sight " + no, BAD, x -> x.sight(no, 9));
        }
        for (int no : new int[] {-1, 504, 100, 10000, LEAST, GREATEST}) {
            refused("sight from and to " + no, BAD, x -> x.sight(0, no));
        }
        for (int no : new int[] {-1, 41, 141, 200, LEAST, GREATEST}) {
            refused("gun " + no, BAD, x -> x.gun(no, 0));
        }
        for (int no : new int[] {-1, 60, LEAST, GREATEST}) {
            refused("gun part " + no, BAD, x -> x.gun(0, no));
        }
        for (int no : new int[] {-1, 6, LEAST, GREATEST}) {
            refused("sights " + no, BAD, x -> x.sights(no, 0, 1));
            refused("judge " + no, BAD, x -> x.judge(no));
            refused("keep " + no, BAD, x -> x.keep(no, -1));
            refused("row " + no, BAD, x -> x.row(no, 0, 1));
            refused("put " + no, BAD, x -> x.put(no, 0, 1));
            refused("element " + no, Long.MIN_VALUE, x -> x.element(no, 0));
            refused("shift from " + no, BAD, x -> x.shift(no, 0, 1, 0, 1));
            refused("shift to " + no, BAD, x -> x.shift(1, 0, no, 0, 1));
            refused("taken " + no, BAD, x -> x.taken(no, 0));
        }
        for (int no : new int[] {0, 9, LEAST, GREATEST}) {
            refused(no + " sights", BAD, x -> x.sights(1, 0, no));
        }
        for (int no : new int[] {-1, 2, LEAST, GREATEST}) {
            refused("set " + no, VOID, x -> x.set(no, 0));
            refused("shown " + no, BAD, x -> x.shown(no, 0, 0));
            refused("guess " + no, VOID, x -> x.guess(no, 0));
            refused("liars " + no, BAD, x -> x.liars(no));
            refused("round " + no, BAD, x -> x.round(no, 0));
            refused("led " + no, BAD, x -> x.led(no, 0));
            refused("lot what " + no, BAD, x -> x.lot(1, 1, no));
        }
        for (int no : new int[] {-1, 100000, LEAST, GREATEST}) {
            refused("set at " + no, VOID, x -> x.set(0, no));
            refused("agree " + no, BAD, x -> x.agree(no, no, 0));
            refused("meet " + no, BAD, x -> x.meet(no, 0, 0));
        }
        for (int no : new int[] {-1, 8, LEAST, GREATEST}) {
            refused("body " + no, BAD, x -> x.body(no));
            refused("taken for " + no, BAD, x -> x.taken(4, no));
        }
        for (int no : new int[] {-1, 5, LEAST, GREATEST}) {
            refused("row of sort " + no, BAD, x -> x.row(1, no, 1));
        }
        for (int no : new int[] {-1, 256, LEAST, GREATEST}) {
            refused("feed " + no, BAD, x -> x.feed(no));
        }
        refused("keep a body that is none", BAD, x -> x.keep(4, 50));
        refused("keep a body below", BAD, x -> x.keep(4, -2));
        refused("row of 61", BAD, x -> x.row(1, 0, 61));
        refused("row of -1", -14, x -> x.row(1, 0, -1));
        refused("row of the least", -14, x -> x.row(1, 4, LEAST));
        refused("BAD ahead of -14", BAD, x -> x.row(1, 5, -1));
    }

    private static void askedOfNone() {
        refused("forget", STATE, x -> x.forget());
        refused("back", STATE, x -> x.back());
        refused("undo", STATE, x -> x.undo());
        refused("redo", STATE, x -> x.redo());
        refused("keep", BAD, x -> x.keep(0, 0));
        refused("law", -100, x -> x.law());
        refused("put", -11, x -> x.put(0, 0, 1));
        refused("judge", -11, x -> x.judge(0));
        refused("taken", -11, x -> x.taken(0, 0));
        refused("shift", -11, x -> x.shift(0, 0, 1, 0, 1));
        refused("sights", 0, x -> x.sights(0, 0, 1));
        refused("act", 0, x -> x.act(0, 0, 0));
        refused("mend to what it is", 0, x -> x.mend(0, 0, 0));
        refused("mend to what it is", 20, x -> x.mend(0, 4, 20));
        refused("keep nothing", 1, x -> x.keep(0, -1));
    }

    private static void asked() {
        asked("of", x -> x.of(0, 0) + x.of(1, 11) + x.of(2, 22));
        asked("shown", x -> x.shown(1, 700, 1));
        asked("weight", x -> x.weight(77));
        asked("how many fit", x -> x.fits(-1));
        asked("fits", x -> x.fits(2));
        asked("chance", x -> x.chance(100400, 0));
        asked("likely", x -> x.likely());
        asked("tells", x -> x.tells(1));
        asked("next", x -> x.next(33, 1));
        asked("lot", x -> x.lot(77, 20, 0));
        asked("guess", x -> x.guess(1, 3));
        asked("liars", x -> x.liars(1));
        asked("agree", x -> x.agree(0, 1440, 0));
        asked("meet", x -> x.meet(99999, 5959, 2));
        asked("round", x -> x.round(0, 0));
        asked("led", x -> x.led(0, 1));
        asked("judge", x -> x.judge(2));
        asked("trace", x -> x.trace(3));
        asked("element", x -> x.element(3, 0));
        asked("taken", x -> x.taken(4, 0));
        asked("count", x -> x.count(3));
        asked("mend to what it is", x -> x.mend(0, 1, -3));
        asked("none of a row", x -> x.shift(1, 0, 1, 2, 0));
        asked("a row onto itself", x -> x.shift(2, 0, 2, 0, 6));
    }

    /** Refusals of rows, of bodies and of what is not there, of several the one named first. */
    private static void places() {
        refused("-11", -11, x -> x.put(0, 0, 1));
        refused("-11 ahead of -13", -11, x -> x.put(0, -1, 1));
        refused("-12", -12, x -> x.put(4, 0, 1));
        refused("-12 ahead of -13", -12, x -> x.put(4, 99, 1));
        refused("-13 below", -13, x -> x.put(1, -1, 1));
        refused("-13 behind", -13, x -> x.put(1, 8, 1));
        refused("-13 far behind", -13, x -> x.put(1, GREATEST, 1));
        refused("element", Long.MIN_VALUE, x -> x.element(1, 8));
        refused("element of none", Long.MIN_VALUE, x -> x.element(0, 0));
        refused("element of a body", Long.MIN_VALUE, x -> x.element(4, 0));
        refused("shift from nothing", -11, x -> x.shift(0, 0, 1, 0, 1));
        refused("shift to nothing", -11, x -> x.shift(1, 0, 0, 0, 1));
        refused("-11 ahead of -12", -11, x -> x.shift(4, 0, 0, 0, 1));
        refused("-11 ahead of -12 and -13", -11, x -> x.shift(0, -1, 4, 0, -1));
        refused("shift from a body", -12, x -> x.shift(4, 0, 1, 0, 1));
        refused("shift to a body", -12, x -> x.shift(1, 0, 4, 0, 1));
        refused("-12 ahead of -13", -12, x -> x.shift(1, -1, 4, 0, 1));
        refused("unlike sorts", -12, x -> x.shift(1, 0, 2, 0, 1));
        refused("unlike sorts ahead of -13", -12, x -> x.shift(1, 0, 2, 0, -1));
        int[][] shifts = {{-1, 0, 1}, {0, -1, 1}, {0, 0, -1}, {8, 0, 1}, {0, 8, 1}, {0, 0, 9}, {5, 0, 4}, {0, 5, 4}, {9, 0, 0},
            {0, 9, 0}, {0, 0, GREATEST}, {GREATEST, 0, 1}, {1, 1, GREATEST}, {LEAST, LEAST, LEAST}};
        for (int[] s : shifts) {
            refused("shift " + s[0] + " " + s[1] + " " + s[2], -13, x -> x.shift(1, s[0], 1, s[1], s[2]));
        }
        refused("sights of shorts", -12, x -> x.sights(2, 0, 1));
        refused("sights of shorts, below 0", -12, x -> x.sights(2, -1, 1));
        refused("sights of a body", -12, x -> x.sights(4, 0, 1));
        refused("BAD ahead of -12", BAD, x -> x.sights(4, 0, 0));
        refused("sights that are missing", 0, x -> x.sights(0, 0, 8));
        refused("sights from below 0", 0, x -> x.sights(1, -4, 8));
        refused("sights from too far", 0, x -> x.sights(1, 5, 8));
        refused("sights not as they may be", 0, x -> x.sights(1, 4, 8));
        refused("judge nothing", -11, x -> x.judge(0));
        refused("judge longs", -12, x -> x.judge(3));
        refused("judge a body", -12, x -> x.judge(4));
        refused("taken from nothing", -11, x -> x.taken(0, 0));
        refused("taken from a row", -12, x -> x.taken(1, 0));
        refused("taken for another kind", -12, x -> x.taken(4, 6));
        refused("BAD ahead of -11", BAD, x -> x.taken(0, 8));
        refused("BAD ahead of -12", BAD, x -> x.taken(1, 8));
        refused("fits -2", BAD, x -> x.fits(-2));
        refused("fits behind the last", NOT, x -> x.fits(720));
        refused("tells", BAD, x -> x.tells(3));
        refused("tells", BAD, x -> x.tells(-1));
        refused("weight", BAD, x -> x.weight(720));
        refused("weight", BAD, x -> x.weight(-1));
        refused("chance", BAD, x -> x.chance(720, 0));
        refused("next", BAD, x -> x.next(100, 0));
        refused("lot", BAD, x -> x.lot(1, 21, 0));
        refused("lot", BAD, x -> x.lot(1, 0, 0));
        refused("trace", BAD, x -> x.trace(10));
        refused("trace", BAD, x -> x.trace(-1));
        refused("count", BAD, x -> x.count(6));
        refused("of", VOID, x -> x.of(3, 10));
    }

    private static void beyondFull() {
        refused("sight", FULL, x -> x.sight(0, 0));
        refused("sight, BAD ahead", BAD, x -> x.sight(60, 0));
        refused("gun", FULL, x -> x.gun(0, 0));
        refused("gun, BAD ahead", BAD, x -> x.gun(41, 0));
        refused("body", FULL, x -> x.body(0));
        refused("body, BAD ahead", BAD, x -> x.body(8));
        refused("sights", 0, x -> x.sights(1, 0, 1));
        refused("redo", STATE, x -> x.redo());
        refused("back", STATE, x -> x.back());
        refused("mend to what it is", 41, x -> x.mend(1, 0, 41));
        refused("mend", VOID, x -> x.mend(1, 0, 360));
    }

    private static OneHandEach noneFits() {
        OneHandEach x = new OneHandEach();
        x.sight(3, 0);
        x.sight(4, 0);
        x.gun(0, 3);
        x.gun(100, 0);
        x.gun(100, 30);
        x.mend(1, 0, 5);
        return x;
    }

    private static void whereNoneFits() {
        refused("fits", NOT, x -> x.fits(0));
        refused("fits, BAD ahead", BAD, x -> x.fits(-2));
        refused("likely", NOT, x -> x.likely());
        refused("next", NOT, x -> x.next(0, 0));
        refused("next", NOT, x -> x.next(99, 1));
        refused("next, BAD ahead", BAD, x -> x.next(100, 1));
        refused("next, BAD ahead", BAD, x -> x.next(0, 2));
        refused("chance", 0, x -> x.chance(719, 0));
        refused("chance, BAD ahead", BAD, x -> x.chance(719, 2));
        for (int clock = 0; clock < 2; clock++) {
            int c = clock;
            for (int what = 1; what < 7; what++) {
                int w = what;
                refused("guess " + what, NOT, x -> x.guess(c, w));
            }
            refused("guess, VOID ahead", VOID, x -> x.guess(c, 7));
        }
        refused("agree", NOT, x -> x.agree(0, 1440, 1));
        refused("agree, BAD ahead", BAD, x -> x.agree(0, 1441, 1));
        refused("led", NOT, x -> x.led(0, 1));
        refused("led, BAD ahead", BAD, x -> x.led(0, 2));
    }

    private static OneHandEach allUndone() {
        OneHandEach x = new OneHandEach();
        x.mend(0, 0, 5);
        x.mend(1, 1, 5);
        x.undo();
        x.undo();
        return x;
    }

    /** These leave something else: an act of no body or of no such number no TRACE, a text with a FAULT no TAPE. */
    private static void actsAndLaws() {
        given("nothing has run", () -> {
            OneHandEach x = Steps.some();
            x.act(50, 0, 0);
            return x;
        });
        refused("act of no body", 0, x -> actAndNone(x, 8, 0));
        refused("act of no body", 0, x -> actAndNone(x, -1, 0));
        refused("no such act", 0, x -> actAndNone(x, 0, 4));
        refused("no such act", 0, x -> actAndNone(x, 0, -1));
        given("the tape is empty", () -> {
            OneHandEach x = Steps.some();
            x.law();
            return x;
        });
        for (String text : new String[] {"", "t+", "+t", "12345", "t<t<t", "!!!!!!!t", "1;", "1+".repeat(60)}) {
            refused("law " + text, -1, x -> Steps.law(x, text) <= -100 ? -1 : 1);
        }
    }

    private static long actAndNone(OneHandEach x, int body, int act) {
        x.act(5, 3, 1);
        return x.act(body, act, 1);
    }
}
