/** Promises 1 to 7: each bound from both sides, the empty and the full, and where ints wrap. */
public final class ClocksBoundsTest {
    private static final int BAD = -1, FULL = -3, STATE = -5, VOID = -2000000000;
    private static final int LEAST = Integer.MIN_VALUE, GREATEST = Integer.MAX_VALUE;
    private static final String OPERANDS = "0123456789thmse!-(", DIGITS = "0123456789";
    private static OneHandEach x;

    public static void main(String[] args) {
        Runnable[] promises = {ClocksBoundsTest::newObject, ClocksBoundsTest::mend, ClocksBoundsTest::of,
            ClocksBoundsTest::shown, ClocksBoundsTest::feed, ClocksBoundsTest::law, ClocksBoundsTest::weight};
        for (int i = 0; i < promises.length; i++) {
            Due.about("bounds of promise " + (i + 1));
            x = new OneHandEach();
            promises[i].run();
        }
        Due.end();
    }

    private static void due(String call, long want, long got) {
        Due.due(call, want, got);
    }

    // ---- promise 1

    private static void newObject() {
        for (int what = 10; what < 23; what++) {
            due("of 0 " + what, VOID, x.of(0, what));
        }
        for (int clock = 0; clock < 2; clock++) {
            due("led", 0, x.led(clock, 0));
            due("led", -2, x.led(clock, 1));
        }
        due("first time's weight", 1, x.weight(0));
        due("last time's weight", 1, x.weight(719));
        due("all times fit", 720, x.fits(-1));
        due("forget", STATE, x.forget());
        due("undo", STATE, x.undo());
        due("redo", STATE, x.redo());
        due("back", STATE, x.back());
        due("tells", BAD, x.tells(0));
        due("trace", BAD, x.trace(0));
        due("keep", BAD, x.keep(0, 0));
        for (int shelf = 0; shelf < 6; shelf++) {
            due("taken", -11, x.taken(shelf, 7));
            due("judge", -11, x.judge(shelf));
            due("put", -11, x.put(shelf, 0, 1));
            due("element", Long.MIN_VALUE, x.element(shelf, 0));
            due("shift", -11, x.shift(shelf, 0, shelf, 0, 0));
        }
        due("the tape", -100, x.law());
        OneHandEach other = new OneHandEach();
        Steps.some();
        Steps.full();
        Due.that("what others hold is not seen", Probe.of(other).equals(Probe.of(new OneHandEach())));
    }

    // ---- promise 2

    private static void mend() {
        for (int clock = 0; clock < 2; clock++) {
            range(clock, 0, -360, 359);
            range(clock, 1, -9, 9);
        }
        range(0, 2, 0, 9);
        range(0, 3, 0, 20);
        range(0, 4, 10, 99);
        for (int w = 0; w <= 99; w++) {
            x = new OneHandEach();
            x.mend(0, 3, 0);
            due("W1", 20, x.mend(0, 4, w));
            due("W0 above W1", VOID, x.mend(0, 3, w + 1));
            due("W0 at W1", 0, x.mend(0, 3, w));
            due("W1 below W0", VOID, x.mend(0, 4, w - 1));
            due("W0", w, x.of(0, 3));
            due("W1", w, x.of(0, 4));
        }
        int[] numbers = {LEAST, -2, -1, 0, 1, 2, 3, 100, GREATEST};
        int[] whats = {LEAST, -1, 0, 1, 2, 3, 4, 5, 6, 10, GREATEST};
        for (int number : numbers) {
            for (int what : whats) {
                x = new OneHandEach();
                boolean clock = (number == 0 || number == 1) && (what == 0 || what == 1);
                boolean town = number == 0 && what >= 2 && what <= 4;
                int v = what == 3 ? 9 : what == 4 ? 11 : 1;
                int was = what == 3 ? 10 : what == 4 ? 20 : 0;
                due("mend " + number + " " + what, clock || town ? was : VOID, x.mend(number, what, v));
                due("then of", clock || town ? v : VOID, x.of(number, what));
                due("then changes", clock || town ? 1 : 0, x.count(3));
            }
        }
    }

    private static void range(int number, int what, int least, int most) {
        int was = new OneHandEach().of(number, what);
        for (int v = least - 300; v <= most + 300; v++) {
            one(number, what, v, v >= least && v <= most, was);
        }
        for (int v : new int[] {LEAST, LEAST + 1, GREATEST - 1, GREATEST, VOID, 1 << 16, 256, -256, 100000}) {
            one(number, what, v, v >= least && v <= most, was);
        }
    }

    private static void one(int number, int what, int v, boolean inside, int was) {
        x = new OneHandEach();
        due("mend " + number + " " + what + " " + v, inside ? was : VOID, x.mend(number, what, v));
        due("then of", inside ? v : was, x.of(number, what));
        due("then changes", inside && v != was ? 1 : 0, x.count(3));
    }

    // ---- promise 3

    private static void of() {
        of(new OneHandEach(), 0, 0);
        of(Steps.some(), 3, 4);
        of(Steps.full(), 8, 10);
        x = Steps.full();
        for (int i = 0; i < 8; i++) {
            due("PART of each SIGHT", i, x.of(i, 11));
        }
        for (int i = 0; i < 10; i++) {
            due("CLOCK of each GUN", i % 2, x.of(i, 20));
            due("PART of each GUN", i, x.of(i, 22));
        }
        x.forget();
        due("the last that is left", 6, x.of(6, 11));
        due("behind it", VOID, x.of(7, 11));
    }

    private static void of(OneHandEach asked, int sights, int guns) {
        int[] numbers = {LEAST, -1, 0, 1, 2, sights - 1, sights, guns - 1, guns, GREATEST};
        int[] whats = {LEAST, -10, -1, 0, 1, 2, 3, 4, 5, 9, 10, 11, 12, 13, 14, 19, 20, 21, 22, 23, 30, GREATEST};
        for (int number : numbers) {
            for (int what : whats) {
                boolean there = what >= 20 && what <= 22 ? number >= 0 && number < guns
                    : what >= 10 && what <= 13 ? number >= 0 && number < sights
                    : what >= 2 && what <= 4 ? number == 0
                    : (what == 0 || what == 1) && (number == 0 || number == 1);
                Due.that("of " + number + " " + what + " is there: " + there,
                    there == (asked.of(number, what) != VOID));
            }
        }
    }

    // ---- promise 4

    private static void shown() {
        int[] minutes = {0, 1, 10, 11, 12, 13, 33, 34, 59, 60, 99, 100, 101, 359, 360, 361, 719, 720, 721, 99998, 99999};
        for (int off : new int[] {-360, -1, 0, 1, 359}) {
            for (int gain : new int[] {-9, -1, 0, 1, 9}) {
                for (int clock = 0; clock < 2; clock++) {
                    x = new OneHandEach();
                    x.mend(clock, 0, off);
                    x.mend(clock, 1, gain);
                    for (int minute : minutes) {
                        int gained = gain < 0 ? -(minute * -gain / 100) : minute * gain / 100;
                        int time = ((minute + off + gained) % 720 + 720) % 720;
                        String call = "shown " + clock + " " + minute + " by " + off + " " + gain;
                        due(call, time, x.shown(clock, minute, 0));
                        due("part, " + call, clock == 0 ? time / 12 : time % 60, x.shown(clock, minute, 1));
                    }
                }
            }
        }
        x = new OneHandEach();
        x.mend(0, 1, -9);
        due("-99 by 100 is 0", 11, x.shown(0, 11, 0));
        due("-108 by 100 is -1", 11, x.shown(0, 12, 0));
        x = new OneHandEach();
        for (int clock = 0; clock < 2; clock++) {
            due("719", 719, x.shown(clock, 719, 0));
            due("720 is 0", 0, x.shown(clock, 720, 0));
            due("the last part", 59, x.shown(clock, 719, 1));
            due("the first part", 0, x.shown(clock, 720, 1));
        }
        due("11 by 12", 0, x.shown(0, 11, 1));
        due("12 by 12", 1, x.shown(0, 12, 1));
        due("708 by 12", 59, x.shown(0, 708, 1));
        due("707 by 12", 58, x.shown(0, 707, 1));
        int[][] wrong = {{-1, 0, 0}, {2, 0, 0}, {LEAST, 0, 0}, {GREATEST, 0, 0}, {0, -1, 0}, {1, 100000, 0}, {1, LEAST, 1},
            {0, GREATEST, 1}, {0, 0, -1}, {1, 0, 2}, {0, 0, LEAST}, {0, 0, GREATEST}};
        for (int[] w : wrong) {
            due("shown " + w[0] + " " + w[1] + " " + w[2], BAD, x.shown(w[0], w[1], w[2]));
        }
    }

    // ---- promise 5

    private static void feed() {
        for (int letter : new int[] {-1, 256, LEAST, GREATEST, 256 + 't', 't' - 256}) {
            due("feed " + letter, BAD, x.feed(letter));
        }
        due("no byte came", 0, x.count(2));
        due("the least byte", 1, x.feed(0));
        due("the greatest byte", 2, x.feed(255));
        x = new OneHandEach();
        for (int i = 1; i <= 120; i++) {
            due("byte " + i, i, x.feed(i % 2 == 1 ? '1' : i == 120 ? '1' : '+'));
            due("bytes", i, x.count(2));
        }
        due("byte 121", FULL, x.feed('1'));
        due("BAD ahead of FULL", BAD, x.feed(-1));
        due("BAD ahead of FULL", BAD, x.feed(256));
        due("bytes", 120, x.count(2));
        due("the law of 120 bytes", 1, x.law());
        due("what did not come is not in it", 59 + 11, x.weight(0));
        due("empty", 0, x.count(2));
        due("from one on again", 1, x.feed('9'));
    }

    // ---- promise 6

    private static void law() {
        String joins = "+-*/%<=>&|", all = joins + ";?";
        String[][] goesOn = {{"", OPERANDS}, {"t", all}, {"h", all}, {"m", all}, {"s", all}, {"e", all},
            {"1", all + DIGITS}, {"12", all + DIGITS}, {"123", all + DIGITS}, {"1234", all}, {"0000", all},
            {"t+1234", all}, {"t+", OPERANDS}, {"t-", OPERANDS}, {"t*", OPERANDS},
            {"t/", OPERANDS}, {"t%", OPERANDS}, {"t<", OPERANDS}, {"t=", OPERANDS}, {"t>", OPERANDS}, {"t&", OPERANDS},
            {"t|", OPERANDS}, {"t;", OPERANDS}, {"t?", OPERANDS}, {"(", OPERANDS}, {"!", OPERANDS}, {"-", OPERANDS},
            {"t<t", "+-*/%&|;?"}, {"t=t", "+-*/%&|;?"}, {"t>t", "+-*/%&|;?"}, {"t<t+t*t", "+-*/%&|;?"},
            {"t<t&t", all}, {"t<t|t", all}, {"t<t;t", all}, {"t<t?t", joins + ";"}, {"(t<t)", all}, {"t<(t<t)", "+-*/%&|;?"},
            {"(t", joins + ")"}, {"(t<t", "+-*/%&|)"}, {"((t)", joins + ")"}, {"(t)", all}, {"(12", joins + ")" + DIGITS},
            {"t?t", joins + ";"}, {"t?(t)", joins + ";"}, {"t?t;t", all}, {"t?t;t?t", joins + ";"}, {"t?12", joins + ";" + DIGITS},
            {"!!!!!!", DIGITS + "thmse"}, {"------", DIGITS + "thmse"}, {"((((((", DIGITS + "thmse"},
            {"!!!!!", OPERANDS}, {"-----", OPERANDS}, {"(((((", OPERANDS}, {"!-(!-(", DIGITS + "thmse"},
            {"(t+!!!!!", DIGITS + "thmse"}, {"!(t+!!!!", DIGITS + "thmse"}, {"!(t+!!!", OPERANDS}, {"!!!!!!t+", OPERANDS},
            {"((((((t)", joins + ")"}, {"((((((t)+", OPERANDS}, {"((((((t)+!", DIGITS + "thmse"},
            {"!!!(t)*!!!(t+", OPERANDS}, {"!!!!!!t;!!!!!!t?!!!!!!", DIGITS + "thmse"}, {"-t-(-t-", OPERANDS}};
        for (String[] g : goesOn) {
            for (int letter = 0; letter < 256; letter++) {
                x = new OneHandEach();
                Steps.feed(x, g[0]);
                x.feed(letter);
                boolean fault = x.law() == -100 - g[0].length();
                Due.that("after " + g[0] + " goes on with byte " + letter, fault == g[1].indexOf(letter) < 0);
            }
        }
        places();
        tooEarly();
        lines();
        staysAndIsEmptied();
    }

    private static void places() {
        String long119 = "1" + "+1".repeat(59);
        due("a fault at the first byte", -100, Steps.law(new OneHandEach(), "+" + long119));
        due("a fault at the last byte", -219, Steps.law(new OneHandEach(), long119 + "t"));
        due("too early behind the last byte", -220, Steps.law(new OneHandEach(), long119 + "+"));
        due("the first of two", -101, Steps.law(new OneHandEach(), "t)+x"));
        due("a fault ahead of its end", -102, Steps.law(new OneHandEach(), "t+x+"));
        due("120 bytes", 1, Steps.law(new OneHandEach(), long119 + "1"));
        due("119 bytes", 1, Steps.law(new OneHandEach(), long119));
        due("one byte", 1, Steps.law(new OneHandEach(), "t"));
        due("no byte", -100, new OneHandEach().law());
        due("1 to 4 digits", -104, Steps.law(new OneHandEach(), "00001"));
        due("sixty lines", 1, Steps.law(new OneHandEach(), "1" + ";1".repeat(59) + "1"));
    }

    /** Of the texts these ask for the most steps: each byte is one, and each end of a line. */
    private static void longest() {
        weighs("-t" + "+1".repeat(59), 9, 50);
        weighs("!t" + "+1".repeat(59), 0, 60);
        weighs("0" + "?0;0".repeat(29) + "?7", 5, 0);
        weighs("0" + "?0;0".repeat(29) + "+7", 5, 7);
        weighs("!".repeat(6) + "t" + "*!!!!!!t".repeat(14), 5, 1);
        weighs("((((((t))))))" + "+((((((t))))))".repeat(7), 5, 40);
    }

    private static void tooEarly() {
        String[] early = {"!", "-", "(", "t+", "t<", "t&", "t|", "t;", "t?", "t?t;", "(t", "((t)", "!!!!!!", "((((((t)))))",
            "t<t+", "12*", "t?(t"};
        for (String text : early) {
            due("too early: " + text, -100 - text.length(), Steps.law(new OneHandEach(), text));
        }
        for (String sign : new String[] {"!", "-", "("}) {
            String ends = sign.equals("(") ? ")" : "";
            due("six " + sign, 1, Steps.law(new OneHandEach(), sign.repeat(6) + "t" + ends.repeat(6)));
            due("seven " + sign, -106, Steps.law(new OneHandEach(), sign.repeat(7) + "t" + ends.repeat(7)));
            due("six each time", 1,
                Steps.law(new OneHandEach(), (sign.repeat(6) + "t" + ends.repeat(6) + "+").repeat(8) + "t"));
        }
    }

    private static void lines() {
        String[] laws = {"t", "t?t", "t;t", "t?t;t", "t;t?t", "t?t;t?t", "t<t?t<t;t<t", "(t<t)<(t<t)", "t<t&t<t|t<t",
            "((((((t))))))", "t--t", "t-!t", "t<-t", "t=!t", "!(t)", "-(t)", "(t)?(t)", "0000;9999"};
        for (String text : laws) {
            due("law " + text, 1, Steps.law(new OneHandEach(), text));
        }
        String[] faults = {";t", "?t", ")", " t", "T", "1234 ", "t;;t", "t??t", "t?;t", "t?t?t", "(t?t)", "(t;t)", "()", "t()",
            "t=<t", "t<=t", "t==t", "t<t<t", "t&&t", "t+*t", "tt", "t!", "1t", "t1", "(t)(t)", "t,t"};
        int[] at = {0, 0, 0, 0, 0, 4, 2, 2, 2, 3, 2, 2, 1, 1, 2, 2, 2, 3, 2, 2, 1, 1, 1, 1, 3, 1};
        for (int i = 0; i < faults.length; i++) {
            due("law " + faults[i], -100 - at[i], Steps.law(new OneHandEach(), faults[i]));
        }
    }

    private static void staysAndIsEmptied() {
        x = new OneHandEach();
        due("a fault", -101, Steps.law(x, "5)"));
        due("is no law", 1, x.weight(0));
        due("the tape is empty", 0, x.count(2));
        due("a law", 1, Steps.law(x, "5"));
        due("the tape is empty", 0, x.count(2));
        due("its weight", 5, x.weight(0));
        due("too early", -102, Steps.law(x, "6+"));
        due("the tape is empty", 0, x.count(2));
        due("the law stays", 5, x.weight(0));
        due("no text", -100, x.law());
        due("the law stays", 5, x.weight(0));
        due("a law in its place", 1, Steps.law(x, "7"));
        due("its weight", 7, x.weight(0));
        x = Steps.withFullTape();
        due("a full tape", 1, x.law());
        due("has room then", 1, x.feed('t'));
        due("which alone is read", 1, x.law());
        due("its weight", 8, x.weight(8));
    }

    // ---- promise 7

    private static void weight() {
        int[] wrong = {-1, 720, LEAST, GREATEST};
        for (int time : wrong) {
            due("weight " + time, BAD, x.weight(time));
        }
        for (int time = 0; time < 240; time++) {
            due("without a text", 1, x.weight(3 * time));
        }
        weighs("98", 0, 98);
        weighs("99", 0, 99);
        weighs("100", 0, 99);
        weighs("9999*9999", 0, 99);
        weighs("1-1", 0, 0);
        weighs("1-2", 0, 0);
        weighs("-9999", 0, 0);
        weighs("t", 0, 0);
        weighs("t-620", 719, 99);
        weighs("t-621", 719, 98);
        weighs("h", 59, 0);
        weighs("h", 60, 1);
        weighs("h", 719, 11);
        weighs("m", 59, 59);
        weighs("m", 60, 0);
        weighs("m", 719, 59);
        names();
        wraps();
        cutsAndTruths();
        ranks();
        firstLine();
        longest();
    }

    /** What a text gives is asked by itself and by whether it is just that, as weights are held within 0 .. 99. */
    private static void weighs(String text, int time, int want) {
        x = new OneHandEach();
        due("law " + text, 1, Steps.law(x, text));
        due(text + " at " + time, want, x.weight(time));
    }

    private static void is(String text, String value) {
        weighs("(" + text + ")=(" + value + ")", 0, 1);
    }

    private static void names() {
        x = new OneHandEach();
        Steps.law(x, "s*10+e");
        due("no sights, no ERR", 0, x.weight(5));
        for (int i = 1; i <= 8; i++) {
            x.sight(0, 0);
            due("s", i * 10, x.weight(0));
        }
        for (int e = 1; e <= 9; e++) {
            x.mend(0, 2, e);
            due("e", 80 + e, x.weight(0));
        }
        x.forget();
        due("one less", 79, x.weight(0));
        x.undo();
        due("ERR undone", 78, x.weight(0));
    }

    private static void wraps() {
        String least = "8192*8192*32", greatest = "8192*8192*32-1";
        is(greatest, "8192*8192*31+8192*8191+8191");
        weighs(least + "<0", 0, 1);
        weighs(greatest + ">0", 0, 1);
        weighs("(" + greatest + ")+1<0", 0, 1);
        weighs("(" + greatest + ")*2=-2", 0, 1);
        weighs(least + "*2=0", 0, 1);
        weighs("9999*9999*21>0", 0, 1);
        weighs("9999*9999*22<0", 0, 1);
        is("-(" + least + ")", least);
        is("(" + least + ")/-1", least);
        weighs("(" + least + ")%-1=0", 0, 1);
        weighs("(" + least + ")/0=0", 0, 1);
        weighs("(" + least + ")%0=0", 0, 1);
        weighs(least, 0, 0);
        weighs(greatest, 0, 99);
    }

    private static void cutsAndTruths() {
        String[][] same = {{"7/2", "3"}, {"-7/2", "-3"}, {"7/-2", "-3"}, {"-7/-2", "3"}, {"7%4", "3"}, {"-7%4", "-3"},
            {"7%-4", "3"}, {"-7%-4", "-3"}, {"1/2", "0"}, {"-1/2", "0"}, {"7/0", "0"}, {"7%0", "0"}, {"0/0", "0"},
            {"0%0", "0"}, {"-7/0", "0"}, {"0/7", "0"}, {"2|0", "1"}, {"0|2", "1"}, {"2|4", "1"}, {"0|0", "0"}, {"-2|0", "1"},
            {"2&4", "1"}, {"1&2", "1"}, {"2&0", "0"}, {"0&2", "0"}, {"0&0", "0"}, {"-1&-1", "1"}, {"1&0&1", "0"},
            {"3<4", "1"}, {"4<4", "0"}, {"5<4", "0"}, {"3=4", "0"}, {"4=4", "1"}, {"3>4", "0"}, {"4>4", "0"}, {"5>4", "1"},
            {"-1<0", "1"}, {"0>-1", "1"}, {"!0", "1"}, {"!1", "0"}, {"!2", "0"}, {"!-1", "0"}, {"!!5", "1"}, {"!!0", "0"},
            {"-!0", "-1"}, {"!-0", "1"}, {"--5", "5"}, {"---5", "-5"}, {"-!-5", "0"}, {"9999", "9999"}, {"0009", "9"},
            {"0-0", "0"}, {"0/(5-5)|7", "1"}};
        for (String[] s : same) {
            is(s[0], s[1]);
        }
    }

    private static void ranks() {
        String[][] same = {{"9-3-2", "4"}, {"9-(3-2)", "8"}, {"90/7/2", "6"}, {"90/(7/2)", "30"}, {"7%4*2", "6"}, {"2*7%4", "2"},
            {"2+3*4", "14"}, {"(2+3)*4", "20"}, {"2*3+4", "10"}, {"-2*3", "-6"}, {"-2+3", "1"}, {"-(2+3)", "-5"}, {"!2+3", "3"},
            {"!(2-2)", "1"}, {"!0*5", "5"}, {"1+1<3", "1"}, {"3<1+1", "0"}, {"1<2&3", "1"}, {"2&1<1", "0"}, {"1|0&0", "1"},
            {"(1|0)&0", "0"}, {"0&0|1", "1"}, {"0&(0|1)", "0"}, {"2=2&1", "1"}, {"1&2=2", "1"}, {"0|2=3", "0"}, {"5-5|0", "0"},
            {"1<2&3>2", "1"}};
        for (String[] s : same) {
            is(s[0], s[1]);
        }
        due("one comparison only", -103, Steps.law(new OneHandEach(), "1<2=1"));
    }

    private static void firstLine() {
        weighs("5", 0, 5);
        weighs("5;6", 0, 5);
        weighs("0;6", 0, 0);
        weighs("1?5", 0, 5);
        weighs("-1?5", 0, 5);
        weighs("0?5", 0, 0);
        weighs("0?5;0?6", 0, 0);
        weighs("0?5;0?6;7", 0, 7);
        weighs("0?5;1?6;7", 0, 6);
        weighs("2?5;1?6;7", 0, 5);
        weighs("0?5;4;1?6", 0, 4);
        weighs("1?0;6", 0, 0);
        weighs("1?0-1;6", 0, 0);
        weighs("0?1|1+1*1;0?!-(1<2)", 0, 0);
        weighs("t?7;9", 0, 9);
        weighs("t?7;9", 1, 7);
        weighs("1?3;4", 0, 3);
        weighs("0?1;".repeat(29) + "8", 0, 8);
        weighs("0?1;".repeat(29) + "0?8", 0, 0);
    }
}
