/** Promises 23 to 26, and the Terms HEARD, MOVES, LISTEN. */
final class HeardEdges {
    private static final int NONE = -1, UNKNOWN = -1000000001, FULL = -1000000004;
    private static final int LEAST = Integer.MIN_VALUE, GREATEST = Integer.MAX_VALUE;

    private HeardEdges() {
    }

    static void all(Edges e) {
        eightAtMost(e);
        asItIsNow(e);
        moves(e);
        noneIfABeatIsGone(e);
        theGreaterPartIsLeast(e);
        ofLikeOnesTheLeast(e);
        nonePartsThem(e);
        hear(e);
        askedMoves(e);
        askedListen(e);
        forget(e);
    }

    private static void eightAtMost(Edges e) {
        e.says("Terms", "HEARD (8 at most):");
        TilingBeats x = new TilingBeats();
        for (int i = 1; i <= 8; i++) {
            e.is("the same BEAT " + i + " times", x.hear(3, false), i);
        }
        e.is("a ninth", x.hear(3, false), FULL);
        e.is("a ninth that is otherwise", x.hear(3, true), FULL);
        e.is("it was not HEARD", x.moves(), 65535);
    }

    private static void asItIsNow(Edges e) {
        e.says("Terms", "THE RHYTHM as it is now, MOVED by an unknown t (0 to N less 1), strikes a BEAT, "
                + "or does not.");
        TilingBeats x = Due.told("x23.");
        x.hear(0, true);
        e.is("t 0", x.moves(), 1);
        x.turn(1);
        e.is("t N less 1", x.moves(), 1 << 23);
        x.over();
        e.is("all but that", x.moves(), 16777215 ^ 1 << 23);
        x.undo(2);
        e.is("undone", x.moves(), 1);
        TilingBeats one = Due.told("x");
        one.hear(0, true);
        e.is("one BEAT, STRUCK", one.moves(), 1);
        one.hear(0, false);
        e.is("one BEAT, STRUCK and not", one.moves(), 0);
    }

    private static void moves(Edges e) {
        e.says("Terms", "MOVES (a SET of t) by which all that is HEARD is so");
        TilingBeats x = Due.told("x..x..x.");
        e.is("nothing HEARD", x.moves(), 255);
        x.hear(0, true);
        e.is("BEAT 0", x.moves(), 1 | 1 << 5 | 1 << 2);
        x.hear(7, true);
        e.is("BEATS 0, 7", x.moves(), 0);
        x.forget();
        x.hear(7, false);
        e.is("BEAT 7 is not", x.moves(), 255 ^ (1 << 7 | 1 << 4 | 1 << 1));
        TilingBeats all = Due.told("24x");
        all.hear(23, true);
        e.is("all STRUCK", all.moves(), 16777215);
        all.hear(23, false);
        e.is("at odds", all.moves(), 0);
        TilingBeats none = Due.told("24.");
        none.hear(23, false);
        e.is("none STRUCK", none.moves(), 16777215);
        none.hear(0, true);
        e.is("at odds", none.moves(), 0);
    }

    private static void noneIfABeatIsGone(Edges e) {
        e.says("Terms", "(none, if a BEAT that was HEARD is there no more).");
        TilingBeats x = Due.told("8x");
        x.hear(6, true);
        e.is("N 8", x.moves(), 255);
        x.cycle(7);
        e.is("N 7: BEAT 6 is there", x.moves(), 127);
        x.cycle(6);
        e.is("N 6: it is not", x.moves(), 0);
        e.is("still HEARD", x.told(15), 1);
        e.is("listen()", x.listen(), NONE);
        x.undo(1);
        e.is("it is there again", x.moves(), 127);
        TilingBeats y = Due.told("8.");
        y.hear(7, false);
        y.cycle(7);
        e.is("one that was not STRUCK is gone, too", y.moves(), 0);
        TilingBeats z = Due.told("8x");
        z.hear(7, true);
        z.hear(0, true);
        z.cycle(7);
        e.is("one of two is gone", z.moves(), 0);
        z.forget();
        e.is("nothing HEARD", z.moves(), 127);
        TilingBeats w = Due.told("x..");
        w.keep(0);
        w.cycle(24);
        w.hear(3, false);
        w.goBack(0);
        e.is("gone by goBack()", w.moves(), 0);
    }

    private static void theGreaterPartIsLeast(Edges e) {
        e.says("Terms", "LISTEN: the BEAT by which these are told apart best: the greater part is least;");
        TilingBeats x = Due.told("x..x..x.");
        x.hear(0, true);
        e.is("of t 0, 2, 5", x.moves(), 37);
        e.is("BEAT 2 parts 1 from 2, BEAT 1 none", x.listen(), 2);
        TilingBeats y = Due.told("xxx.....");
        y.hear(0, false);
        e.is("of t 1 to 5", y.moves(), 62);
        e.is("BEAT 1 parts 1 from 4, BEAT 2 parts 2 from 3", y.listen(), 2);
        TilingBeats z = Due.told("5x...");
        z.hear(0, true);
        e.is("of t 0, 4 to 7", z.moves(), 1 | 1 << 4 | 1 << 5 | 1 << 6 | 1 << 7);
        e.is("BEAT 1 parts 4 from 1, BEAT 2 parts 3 from 2", z.listen(), 2);
    }

    private static void ofLikeOnesTheLeast(Edges e) {
        e.says("Terms", "of like ones the least;");
        e.is("each parts 3 from 5", Due.told("x..x..x.").listen(), 0);
        e.is("each parts 1 from 23", Due.told("23.x").listen(), 0);
        e.is("each parts half", Due.told("12x12.").listen(), 0);
        TilingBeats x = Due.told("x.x.");
        e.is("more STRUCK is no better than fewer", x.listen(), 0);
        TilingBeats y = Due.told("xxx.....");
        y.hear(0, false);
        y.hear(2, false);
        e.is("of t 3, 4, 5", y.moves(), 56);
        e.is("BEAT 3 parts 1 from 2, BEAT 4 parts 2 from 1", y.listen(), 3);
    }

    private static void nonePartsThem(Edges e) {
        e.says("Terms", "NONE: none parts them.");
        e.is("none STRUCK", Due.told("24.").listen(), NONE);
        e.is("all STRUCK", Due.told("24x").listen(), NONE);
        e.is("one BEAT", Due.told("x").listen(), NONE);
        TilingBeats x = Due.told("x.x.");
        x.hear(0, true);
        e.is("t 0, 2 are the same", x.moves(), 5);
        e.is("so none parts them", x.listen(), NONE);
        TilingBeats one = Due.told("x...");
        one.hear(2, true);
        e.is("one t is left", one.listen(), NONE);
        one.hear(2, false);
        e.is("no t is left", one.listen(), NONE);
        e.is("two BEATS, one STRUCK", Due.told(".x").listen(), 0);
    }

    // ---- the promises

    private static void hear(Edges e) {
        e.says("Promise 23", "HEARD: how much.");
        TilingBeats x = Due.told("24.");
        e.is("BEAT 0", x.hear(0, true), 1);
        e.is("BEAT 23", x.hear(23, false), 2);
        e.is("told(15)", x.told(15), 2);
        e.says("Promise 23", "UNKNOWN, FULL (8).");
        for (int beat : new int[] {LEAST, -1, 24, GREATEST}) {
            e.is("hear(" + beat + ", true)", x.hear(beat, true), UNKNOWN);
            e.is("hear(" + beat + ", false)", x.hear(beat, false), UNKNOWN);
        }
        for (int i = 3; i <= 8; i++) {
            e.is("hear " + i, x.hear(i, true), i);
        }
        e.is("hear 9", x.hear(9, true), FULL);
        e.is("no BEAT", x.hear(24, true), UNKNOWN);
        e.is("told(15)", x.told(15), 8);
        e.is("hear(1) of one", Due.told("x").hear(1, true), UNKNOWN);
    }

    private static void askedMoves(Edges e) {
        e.says("Promise 24", "MOVES.");
        e.is("a new object", new TilingBeats().moves(), 65535);
        e.is("one BEAT", Due.told(".").moves(), 1);
        e.is("24 BEATS", Due.told("24.").moves(), 16777215);
        TilingBeats x = Due.told("x23.");
        for (int i = 0; i < 8; i++) {
            x.hear(i, false);
        }
        e.is("eight are not STRUCK", x.moves(), 16777215 ^ 255);
    }

    private static void askedListen(Edges e) {
        e.says("Promise 25", "LISTEN; NONE.");
        e.is("a new object", new TilingBeats().listen(), NONE);
        TilingBeats x = Due.told("x23.");
        for (int i = 0; i < 8; i++) {
            e.is("after " + i, x.listen(), i);
            x.hear(i, false);
        }
        e.is("after 8", x.listen(), 8);
    }

    private static void forget(Edges e) {
        e.says("Promise 26", "Nothing is HEARD: how much was.");
        TilingBeats x = new TilingBeats();
        e.is("nothing", x.forget(), 0);
        for (int i = 0; i < 9; i++) {
            x.hear(i, true);
        }
        e.is("eight", x.forget(), 8);
        e.is("told(15)", x.told(15), 0);
        e.is("moves()", x.moves(), 65535);
        e.is("again", x.forget(), 0);
        e.is("hear after that", x.hear(15, true), 1);
        e.is("forget() is no deed", x.told(16), 0);
    }
}
