import java.util.ArrayList;
import java.util.List;

/** Asks an object for all that can be seen of it: two that answer alike hold the same. */
final class Probe {
    private final OneHandEach x;
    private final List<Long> answers = new ArrayList<>();

    private Probe(OneHandEach x) {
        this.x = x;
    }

    /** The object is used up by it: what was undone and the image are seen by doing again and laying back. */
    static List<Long> of(OneHandEach x) {
        Probe probe = new Probe(x);
        probe.clocks();
        probe.entries();
        probe.fitting();
        probe.guns();
        probe.shelves();
        probe.doneAndUndone();
        probe.acts();
        probe.laidBack();
        probe.tape();
        return probe.answers;
    }

    private void add(long... told) {
        for (long t : told) {
            answers.add(t);
        }
    }

    private void amounts() {
        add(x.of(0, 0), x.of(1, 0), x.of(0, 1), x.of(1, 1), x.of(0, 2), x.of(0, 3), x.of(0, 4));
    }

    private void clocks() {
        amounts();
        add(x.shown(0, 99999, 0), x.shown(1, 77, 1), x.weight(0), x.weight(130), x.weight(719));
        add(x.led(0, 0), x.led(0, 1), x.led(1, 0), x.led(1, 1));
        for (int what = 0; what < 6; what++) {
            add(x.count(what));
        }
        int ran = Math.min(12, x.count(5));
        for (int i = 0; i < ran; i++) {
            add(x.trace(i));
        }
    }

    private void entries() {
        int sights = x.count(0);
        int guns = x.count(1);
        for (int i = 0; i < sights; i++) {
            add(x.of(i, 10), x.of(i, 11), x.of(i, 12), x.of(i, 13));
        }
        for (int i = 0; i < guns; i++) {
            add(x.of(i, 20), x.of(i, 21), x.of(i, 22));
        }
    }

    private void fitting() {
        add(x.fits(-1), x.fits(0), x.fits(9), x.chance(100400, 0), x.chance(100400, 1), x.likely(), x.tells(0));
        add(x.next(9, 0), x.next(9, 1), x.lot(3, 2, 0));
    }

    private void guns() {
        add(x.guess(0, 0), x.guess(1, 0), x.guess(1, 3), x.liars(0), x.liars(1));
        add(x.agree(0, 300, 0), x.meet(0, 1530, 2), x.round(0, 3), x.round(1, 3));
    }

    private void shelves() {
        for (int shelf = 0; shelf < 6; shelf++) {
            add(x.taken(shelf, 0), x.judge(shelf));
            for (int i = 0; i < 9; i++) {
                add(x.element(shelf, i));
            }
        }
    }

    private void doneAndUndone() {
        add(x.redo());
        amounts();
        add(x.redo());
        int changes = x.count(3);
        for (int i = 0; i < changes; i++) {
            add(x.undo());
        }
        amounts();
    }

    private void acts() {
        for (int body = 0; body < 8; body++) {
            add(x.act(body, 3, 5));
        }
    }

    private void laidBack() {
        add(x.back(), x.led(0, 0), x.led(0, 1), x.led(1, 0), x.led(1, 1));
        amounts();
        entries();
    }

    private void tape() {
        add(x.law(), x.weight(0), x.weight(130));
    }
}
