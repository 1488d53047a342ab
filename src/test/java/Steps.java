/** Steps that several tests take with an object ahead of asking it. */
final class Steps {
    private Steps() {
    }

    static void feed(OneHandEach x, String text) {
        for (int i = 0; i < text.length(); i++) {
            x.feed(text.charAt(i));
        }
    }

    static int law(OneHandEach x, String text) {
        feed(x, text);
        return x.law();
    }

    static void lay(OneHandEach x, int shelf, int sort, long... values) {
        x.row(shelf, sort, values.length);
        for (int i = 0; i < values.length; i++) {
            x.put(shelf, i, values[i]);
        }
    }

    /** An object of which little is at its bounds: some of each is there, and one change was undone. */
    static OneHandEach some() {
        OneHandEach x = new OneHandEach();
        x.mend(0, 0, 7);
        x.mend(1, 0, -5);
        x.mend(0, 1, -3);
        x.mend(1, 1, 2);
        x.mend(0, 2, 1);
        x.mend(0, 4, 30);
        x.mend(0, 3, 12);
        x.undo();
        x.sight(15, 0);
        x.sight(133, 1020);
        x.gun(1, 55);
        x.gun(103, 11);
        x.gun(100, 56);
        x.gun(100, 20);
        x.set(1, 600);
        x.image();
        x.sight(133, 1030);
        x.set(0, 50);
        law(x, "t%9+s*10+e");
        feed(x, "h;");
        for (int kind = 0; kind < 8; kind++) {
            x.body(kind);
        }
        lay(x, 1, 0, 1, 9, 0, 99, 0, 15, 2, 1);
        lay(x, 2, 1, 0, 0, 0, 1, 700, 9);
        lay(x, 3, 3, Long.MAX_VALUE, -7, 0);
        x.keep(4, 5);
        lay(x, 5, 4, 1, 0, 1);
        x.act(5, 3, 9);
        return x;
    }

    /** No room for another sight, gun or body; 40 changes that may be undone. */
    static OneHandEach full() {
        OneHandEach x = new OneHandEach();
        for (int i = 0; i < 8; i++) {
            x.sight(i, 9);
        }
        for (int i = 0; i < 10; i++) {
            x.gun(i % 2 * 100, i);
        }
        for (int i = 0; i < 50; i++) {
            x.body(i % 8);
        }
        for (int i = 1; i <= 41; i++) {
            x.mend(1, 0, i);
        }
        x.keep(0, 49);
        lay(x, 1, 0, 0, 0, 0, 0);
        lay(x, 2, 1, 0, 0, 0);
        return x;
    }

    static OneHandEach withFullTape() {
        OneHandEach x = new OneHandEach();
        feed(x, "1" + "+1".repeat(59) + "1");
        return x;
    }
}
