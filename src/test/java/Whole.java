import java.util.ArrayList;
import java.util.List;

/** All that can be seen of an object. It is used up by the looking, with some 160 calls. */
final class Whole {
    private final TilingBeats x;
    private final List<String> seen = new ArrayList<>();

    private Whole(TilingBeats x) {
        this.x = x;
    }

    static List<String> of(TilingBeats x) {
        Whole whole = new Whole(x);
        whole.asked();
        whole.seed();
        whole.past();
        whole.heard();
        whole.text();
        whole.image(0);
        whole.image(1);
        return whole.seen;
    }

    private void see(String call, int answer) {
        seen.add(call + " is " + answer);
    }

    private void rhythm() {
        see("N", x.told(0));
        see("the rhythm", x.told(2));
    }

    private void asked() {
        see("fault", x.fault());
        for (int what = 0; what <= 16; what++) {
            see("told(" + what + ")", x.told(what));
        }
        see("the first tiling", x.tiling(0, 0));
        see("moves", x.moves());
        see("listen", x.listen());
        see("kin(0)", x.kin(0));
        see("kin(1)", x.kin(1));
    }

    private void seed() {
        int was = x.seed(0);
        see("the seed", was);
        x.seed(was);
    }

    private void past() {
        for (int i = x.told(16); i > 0; i--) {
            see("undo", x.undo(1));
            rhythm();
        }
        see("undo past the end", x.undo(1));
    }

    /** With one beat struck of 24, the moves tell most of what was heard. */
    private void heard() {
        x.cycle(24);
        x.even(1);
        see("heard", x.told(15));
        see("moves of one beat", x.moves());
        x.over();
        see("moves of all but one", x.moves());
    }

    private void text() {
        see("letters", x.told(14));
        see("tell", x.tell());
        see("its fault", x.fault());
        rhythm();
    }

    private void image(int i) {
        see("goBack(" + i + ")", x.goBack(i));
        rhythm();
        see("its seed", x.seed(0));
    }
}
