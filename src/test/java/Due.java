/** Counts the answers that are not as due, and prints them. */
final class Due {
    private final String test;
    private int wrong;
    private int asked;

    Due(String test) {
        this.test = test;
    }

    void is(String call, long got, long want) {
        asked++;
        if (got != want) {
            wrong++;
            System.out.println(test + ": " + call + " answered " + got + ", due is " + want);
        }
    }

    int asked() {
        return asked;
    }

    void holds(String what, boolean so) {
        is(what, so ? 1 : 0, 1);
    }

    void end() {
        System.out.println(test + ": " + asked + " answers, " + wrong + " not as due");
        if (wrong != 0) {
            System.exit(1);
        }
    }

    static TilingBeats told(String text) {
        TilingBeats x = new TilingBeats();
        feed(x, text);
        x.tell();
        return x;
    }

    static void feed(TilingBeats x, String text) {
        for (int i = 0; i < text.length(); i++) {
            x.feed(text.charAt(i));
        }
    }

    /** A rhythm struck beat by beat, with nothing to undo. */
    static TilingBeats struck(int n, int set) {
        TilingBeats x = new TilingBeats();
        x.cycle(n);
        for (int beat = 0; beat < n; beat++) {
            if ((set >> beat & 1) == 1) {
                x.strike(beat);
            }
        }
        return x;
    }
}
