/** Promises 5, 8, 9, 12, and the Terms GAPS, MOST EVEN, SHARED, STEADY. */
final class AskedEdges {
    private static final int NONE = -1, OUTSIDE = -1000000002;
    private static final int LEAST = Integer.MIN_VALUE, GREATEST = Integer.MAX_VALUE;

    private AskedEdges() {
    }

    static void all(Edges e) {
        toldPlainly(e);
        toldCounts(e);
        toldOutside(e);
        gaps(e);
        leastAndGreatestGap(e);
        gap(e);
        mostEven(e);
        shared(e);
        steady(e);
    }

    private static void toldPlainly(Edges e) {
        e.says("Promise 5", "0 N, 1 how many are STRUCK, 2 THE RHYTHM (a SET),");
        toldIs(e, "x", 1, 1, 1);
        toldIs(e, ".", 1, 0, 0);
        toldIs(e, "24x", 24, 24, 16777215);
        toldIs(e, "24.", 24, 0, 0);
        toldIs(e, "23.x", 24, 1, 8388608);
    }

    private static void toldIs(Edges e, String text, int n, int struck, int set) {
        TilingBeats x = Due.told(text);
        e.is("told(0) of " + text, x.told(0), n);
        e.is("told(1) of " + text, x.told(1), struck);
        e.is("told(2) of " + text, x.told(2), set);
    }

    private static void toldCounts(Edges e) {
        e.says("Promise 5", "14 letters of THE TEXT,");
        TilingBeats x = new TilingBeats();
        e.is("at first", x.told(14), 0);
        for (int i = 1; i <= 60; i++) {
            x.feed(' ');
            e.is("after " + i, x.told(14), i);
        }
        x.feed(' ');
        e.is("after 61", x.told(14), 60);
        x.tell();
        e.is("after tell()", x.told(14), 0);

        e.says("Promise 5", "15 what is HEARD,");
        e.is("at first", x.told(15), 0);
        for (int i = 1; i <= 8; i++) {
            x.hear(3, true);
            e.is("after " + i, x.told(15), i);
        }
        x.hear(3, true);
        e.is("after 9", x.told(15), 8);
        x.forget();
        e.is("after forget()", x.told(15), 0);

        e.says("Promise 5", "16 how many can be undone.");
        e.is("at first", x.told(16), 0);
        for (int i = 1; i <= 30; i++) {
            x.turn(0);
            e.is("after " + i, x.told(16), i);
        }
        x.turn(0);
        e.is("after 31", x.told(16), 30);
        x.undo(30);
        e.is("after undo(30)", x.told(16), 0);
    }

    private static void toldOutside(Edges e) {
        e.says("Promise 5", "OUTSIDE.");
        TilingBeats x = new TilingBeats();
        for (int what : new int[] {LEAST, -17, -1, 17, 18, 32, 256, GREATEST}) {
            e.is("told(" + what + ")", x.told(what), OUTSIDE);
        }
        for (int what = 0; what <= 16; what++) {
            e.holds("told(" + what + ") is not refused", x.told(what) >= NONE);
        }
    }

    private static void gaps(Edges e) {
        e.says("Terms", "GAPS: from a STRUCK BEAT to the next one, round and round "
                + "(N, if it is the only one): the k-th, from the first STRUCK one on;");
        TilingBeats x = Due.told(".x..xx..");
        e.is("the first STRUCK is BEAT 1", x.gap(0), 3);
        e.is("neighbours", x.gap(1), 1);
        e.is("round and round", x.gap(2), 4);
        TilingBeats ends = Due.told("x22.x");
        e.is("from end to end of 24", ends.gap(0), 23);
        e.is("round from BEAT 23 to 0", ends.gap(1), 1);
        for (int n = 1; n <= 24; n++) {
            TilingBeats one = new TilingBeats();
            one.cycle(n);
            one.strike(n - 1);
            e.is("the only one of " + n, one.gap(0), n);
            one.even(n);
            e.is("the first of all " + n, one.gap(0), 1);
            e.is("the last of all " + n, one.gap(n - 1), 1);
        }
    }

    private static void leastAndGreatestGap(Edges e) {
        e.says("Terms", "the least, the greatest.");
        gapsAre(e, ".x..xx..", 1, 4);
        gapsAre(e, "x22.x", 1, 23);
        gapsAre(e, "xx...x", 1, 4);
        gapsAre(e, "x.xx..", 1, 3);
        gapsAre(e, "x11.x11.", 12, 12);
        gapsAre(e, "x..x.", 2, 3);

        e.says("Promise 5", "9 the least GAP, 10 the greatest GAP (9, 10: NONE),");
        gapsAre(e, ".", NONE, NONE);
        gapsAre(e, "24.", NONE, NONE);
        gapsAre(e, "x", 1, 1);
        gapsAre(e, "x23.", 24, 24);
        gapsAre(e, "23.x", 24, 24);
        gapsAre(e, "24x", 1, 1);
    }

    private static void gapsAre(Edges e, String text, int least, int greatest) {
        TilingBeats x = Due.told(text);
        e.is("told(9) of " + text, x.told(9), least);
        e.is("told(10) of " + text, x.told(10), greatest);
    }

    private static void gap(Edges e) {
        e.says("Promise 8", "The k-th GAP; NONE: not so many.");
        TilingBeats x = Due.told("x.x..");
        e.is("gap(0)", x.gap(0), 2);
        e.is("gap(1)", x.gap(1), 3);
        e.is("gap(2)", x.gap(2), NONE);
        e.is("gap(greatest)", x.gap(GREATEST), NONE);
        e.is("gap(-1)", x.gap(-1), NONE);
        e.is("gap(least)", x.gap(LEAST), NONE);
        TilingBeats all = Due.told("24x");
        e.is("gap(23) of 24", all.gap(23), 1);
        e.is("gap(24) of 24", all.gap(24), NONE);
        e.is("gap(0) of none", Due.told("24.").gap(0), NONE);
        e.is("gap(1) of the only one", Due.told("x23.").gap(1), NONE);
    }

    private static void mostEven(Edges e) {
        e.says("Terms", "MOST EVEN: it is EVEN of as many, somehow MOVED.");
        for (int n = 1; n <= 24; n++) {
            for (int k = 0; k <= n; k++) {
                TilingBeats x = new TilingBeats();
                x.cycle(n);
                x.even(k);
                x.turn(23);
                e.is("EVEN of " + k + " of " + n + ", MOVED by 23", x.told(11), 1);
                e.is("as many", x.told(1), k);
            }
        }
        e.says("Promise 5", "11 MOST EVEN (1, 0),");
        e.is("none", Due.told("24.").told(11), 1);
        e.is("all", Due.told("24x").told(11), 1);
        e.is("the only one", Due.told("23.x").told(11), 1);
        e.is("all but one", Due.told("5x.").told(11), 1);
        e.is("two of four as neighbours", Due.told("xx..").told(11), 0);
        e.is("one gap too long", Due.told("x...x..x").told(11), 0);
        e.is("of the same gaps in another order", Due.told("x.x.x..x..").told(11), 0);
    }

    private static void shared(Edges e) {
        e.says("Terms", "SHARED with itself MOVED by t: how many BEATS are STRUCK in both.");
        TilingBeats x = Due.told("xx.x...");
        for (int t = 1; t < 7; t++) {
            e.is("shared(" + t + ")", x.shared(t), 1);
        }
        e.is("MOVED by 0", x.shared(0), 3);
        e.is("MOVED by N", x.shared(7), 3);
        e.is("MOVED by N and 1", x.shared(8), 1);
        e.is("none", Due.told("24.").shared(0), 0);
        e.is("all", Due.told("24x").shared(23), 24);
        e.is("round the end", Due.told("x22.x").shared(23), 1);

        e.says("Promise 9", "SHARED (t 0 .. 23).");
        for (int t = 0; t <= 23; t++) {
            e.is("one BEAT, t " + t, Due.told("x").shared(t), 1);
            e.is("the only one of 24, t " + t, Due.told("x23.").shared(t), t == 0 ? 1 : 0);
        }
        e.says("Promise 9", "OUTSIDE.");
        for (int t : new int[] {LEAST, -24, -1, 24, 25, GREATEST}) {
            e.is("shared(" + t + ")", x.shared(t), OUTSIDE);
        }
    }

    private static void steady(Edges e) {
        e.says("Terms", "STEADY: odds of n BEATS (0 .. 60) without a slip, each by q of a hundred (0 .. 100): "
                + "a BILLION times q / 100 each (cut).");
        TilingBeats x = new TilingBeats();
        e.is("no BEAT, never", x.steady(0, 0), 1000000000);
        e.is("no BEAT, always", x.steady(0, 100), 1000000000);
        e.is("one BEAT, never", x.steady(1, 0), 0);
        e.is("60 BEATS, never", x.steady(60, 0), 0);
        e.is("one BEAT, always", x.steady(1, 100), 1000000000);
        e.is("60 BEATS, always", x.steady(60, 100), 1000000000);
        e.is("one BEAT by 1", x.steady(1, 1), 10000000);
        e.is("four BEATS by 1", x.steady(4, 1), 10);
        e.is("five BEATS by 1 are cut", x.steady(5, 1), 0);
        e.is("60 BEATS by 99, cut each time", x.steady(60, 99), 547156620);

        e.says("Promise 12", "STEADY.");
        e.is("steady(2, 33)", x.steady(2, 33), 108900000);
        e.says("Promise 12", "OUTSIDE.");
        for (int n : new int[] {LEAST, -1, 61, GREATEST}) {
            e.is("steady(" + n + ", 50)", x.steady(n, 50), OUTSIDE);
            e.is("steady(" + n + ", 100)", x.steady(n, 100), OUTSIDE);
        }
        for (int q : new int[] {LEAST, -1, 101, GREATEST}) {
            e.is("steady(0, " + q + ")", x.steady(0, q), OUTSIDE);
            e.is("steady(60, " + q + ")", x.steady(60, q), OUTSIDE);
        }
    }
}
