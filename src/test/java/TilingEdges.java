/** Promises 6, 7, of 5 what fills, and the Terms TILING, PERIOD, LEAST. */
final class TilingEdges {
    private static final int NONE = -1, UNKNOWN = -1000000001, OUTSIDE = -1000000002;
    private static final int LEAST = Integer.MIN_VALUE, GREATEST = Integer.MAX_VALUE;

    private TilingEdges() {
    }

    static void all(Edges e) {
        zeroAmongThem(e);
        justOnce(e);
        numberedAsTheyRise(e);
        period(e);
        aperiodic(e);
        told(e);
        tiling(e);
        who(e);
        fewest(e);
        ofLikeOnesTheLeast(e);
        moreThanThree(e);
    }

    private static void zeroAmongThem(Edges e) {
        e.says("Terms", "A TILING is a SET of shifts, 0 among them,");
        e.is("x.x. has two", Due.told("x.x.").told(3), 2);
        TilingBeats x = Due.told(".x.x");
        e.is(".x.x has two", x.told(3), 2);
        e.is("shifts 0, 1", x.tiling(0, 0), 3);
        e.is("shifts 0, 3", x.tiling(1, 0), 9);
        e.is("BEAT 23 alone: all shifts", Due.told("23.x").tiling(0, 0), 16777215);
        e.is("all BEATS: 0 alone", Due.told("24x").tiling(0, 0), 1);
        TilingBeats many = Due.told("4.x7.x7.x3.");
        for (int i = 0; i < 100; i++) {
            e.is("shift 0 in TILING " + 21 * i, many.tiling(21 * i, 0) & 1, 1);
        }
    }

    private static void justOnce(Edges e) {
        e.says("Terms", "by which THE RHYTHM, MOVED by each, strikes each BEAT of THE CYCLE just once.");
        e.is("none STRUCK", Due.told("24.").told(3), 0);
        e.is("none STRUCK of one", Due.told(".").told(3), 0);
        e.is("one STRUCK of one", Due.told("x").told(3), 1);
        e.is("one STRUCK of 24", Due.told("x23.").told(3), 1);
        e.is("all STRUCK of 24", Due.told("24x").told(3), 1);
        e.is("all but one of 24", Due.told("23x.").told(3), 0);
        e.is("three do not part eight", Due.told("xxx.....").told(3), 0);
        e.is("three part six, yet strike twice", Due.told("xx.x..").told(3), 0);
        e.is("round the end", Due.told("x..x").tiling(0, 0), 5);
        e.is("halves of 24", Due.told("12x12.").tiling(0, 0), 4097);
        e.is("two of a prime cycle", Due.told("xx21.").told(3), 0);
    }

    private static void numberedAsTheyRise(Edges e) {
        e.says("Terms", "TILINGS are numbered as their SETS rise.");
        TilingBeats x = Due.told("x7.x7.x7.");
        e.is("how many", x.told(3), 2187);
        e.is("the first", x.tiling(0, 0), 255);
        e.is("the last", x.tiling(2186, 0), 16646145);
        int last = -1;
        for (int i = 0; i < 500; i++) {
            int next = x.tiling(i, 0);
            e.holds("TILING " + i + " is greater than the one ahead", next > last);
            last = next;
        }
        TilingBeats y = Due.told("x..x..");
        int[] rising = {7, 21, 35, 49};
        for (int i = 0; i < 4; i++) {
            e.is("TILING " + i + " of x..x..", y.tiling(i, 0), rising[i]);
        }
        e.is("no fifth", y.tiling(4, 0), UNKNOWN);
    }

    private static void period(Edges e) {
        e.says("Terms", "PERIOD of a SET: the least t (1 .. N), MOVED by which it is the same.");
        for (int n : new int[] {1, 2, 3, 23, 24}) {
            e.is("none of " + n, Due.told(n + ".").told(4), 1);
            e.is("all of " + n, Due.told(n + "x").told(4), 1);
        }
        e.is("the only one of 24", Due.told("23.x").told(4), 24);
        e.is("all but one of 24", Due.told("x.22x").told(4), 24);
        e.is("halves of 24", Due.told("x11.x11.").told(4), 12);
        e.is("thirds of 24", Due.told("x7.x7.x7.").told(4), 8);
        e.is("the least, not its double", Due.told("x.x.x.x.").told(4), 2);
        e.is("no part of N", Due.told("x..x..x.").told(4), 8);
        e.says("Promise 5", "4 PERIOD,");
        e.is("told(4) of xx..xx..", Due.told("xx..xx..").told(4), 4);
    }

    private static void aperiodic(Edges e) {
        e.says("Terms", "APERIODIC: its PERIOD is N.");
        e.is("0 alone of 24", Due.told("24x").tiling(0, 2), 24);
        e.is("0, 2 of 8", Due.told("xx..xx..").tiling(0, 2), 8);
        e.is("0 of one", Due.told("x").tiling(0, 2), 1);
        e.is("not so: all of 24", Due.told("x23.").tiling(0, 2), 1);
        e.is("not so: 0, 12 of 24", Due.told("12x12.").tiling(0, 2), 12);
    }

    private static void told(Edges e) {
        e.says("Promise 5", "3 TILINGS,");
        TilingBeats x = Due.told("x11.x11.");
        e.is("most of two", x.told(3), 2048);
        x.strike(0);
        e.is("one STRUCK", x.told(3), 1);
        x.strike(12);
        e.is("none STRUCK", x.told(3), 0);
        x.undo(2);
        e.is("undone", x.told(3), 2048);
        x.cycle(13);
        e.is("of another N", x.told(3), 0);
    }

    private static void tiling(Edges e) {
        e.says("Promise 6", "Of a TILING: what = 0 the SET of shifts, 1 how many, 2 its PERIOD.");
        TilingBeats x = Due.told("x23.");
        e.is("the SET", x.tiling(0, 0), 16777215);
        e.is("how many", x.tiling(0, 1), 24);
        e.is("its PERIOD", x.tiling(0, 2), 1);
        TilingBeats y = Due.told("24x");
        e.is("the SET", y.tiling(0, 0), 1);
        e.is("how many", y.tiling(0, 1), 1);
        e.is("its PERIOD", y.tiling(0, 2), 24);
        e.is("no 0 of what is not", Due.told("24.").tiling(0, 0), UNKNOWN);

        e.says("Promise 6", "UNKNOWN, OUTSIDE.");
        for (int i : new int[] {LEAST, -1, 1, 2187, GREATEST}) {
            for (int what : new int[] {LEAST, -1, 0, 2, 3, GREATEST}) {
                e.is("tiling(" + i + ", " + what + ")", x.tiling(i, what), UNKNOWN);
            }
        }
        for (int what : new int[] {LEAST, -1, 3, GREATEST}) {
            e.is("tiling(0, " + what + ")", x.tiling(0, what), OUTSIDE);
        }
        TilingBeats most = Due.told("x7.x7.x7.");
        e.is("the last of the most", most.tiling(2186, 1), 8);
        e.is("one more", most.tiling(2187, 1), UNKNOWN);
    }

    private static void who(Edges e) {
        e.says("Promise 7", "Which shift of a TILING strikes a BEAT.");
        TilingBeats one = Due.told("23.x");
        for (int beat = 0; beat < 24; beat++) {
            e.is("BEAT 23 moved strikes " + beat, one.who(0, beat), (beat + 1) % 24);
        }
        TilingBeats all = Due.told("24x");
        for (int beat = 0; beat < 24; beat++) {
            e.is("all of 24 strike " + beat, all.who(0, beat), 0);
        }
        e.is("round the end", Due.told("x..x").who(0, 2), 2);
        e.is("round the end", Due.told("x..x").who(0, 3), 0);
        e.is("one of one", Due.told("x").who(0, 0), 0);
        TilingBeats most = Due.told("x7.x7.x7.");
        e.is("the last TILING strikes 23", most.who(2186, 23), 23);
        e.is("the last TILING strikes 0", most.who(2186, 0), 0);
        e.is("the first TILING strikes 23", most.who(0, 23), 7);

        e.says("Promise 7", "UNKNOWN.");
        for (int beat : new int[] {LEAST, -1, 24, GREATEST}) {
            e.is("who(0, " + beat + ")", all.who(0, beat), UNKNOWN);
        }
        for (int i : new int[] {LEAST, -1, 1, GREATEST}) {
            e.is("who(" + i + ", 0)", all.who(i, 0), UNKNOWN);
        }
        e.is("no TILING", Due.told("24.").who(0, 0), UNKNOWN);
        e.is("one more than the last", most.who(2187, 0), UNKNOWN);
    }

    private static void fewest(Edges e) {
        e.says("Terms", "LEAST: the fewest BEATS (0 .. 3) to STRIKE otherwise so that there is a TILING: how many;");
        mended(e, "24x", 0, 0);
        mended(e, "x", 0, 0);
        mended(e, ".", 1, 1);
        mended(e, "24.", 1, 1);
        mended(e, "23x.", 1, 1 << 23);
        mended(e, ".23x", 1, 1);
        mended(e, "22x.", 1, 1 << 22);
        mended(e, "..21x", 2, 3);
        mended(e, "...20x", 3, 7);
        mended(e, "20x...", 3, 7 << 20);
        mended(e, "xx21.", 1, 1);
        mended(e, "xxx20.", 2, 3);
        mended(e, "4x19.", 3, 7);
        mended(e, "21x...", 3, 7 << 21);
        mended(e, "...21x", 3, 7);
        e.says("Promise 5", "12 LEAST: how many,");
        TilingBeats x = Due.told("19.4x");
        e.is("three", x.told(12), 3);
        x.strike(22);
        e.is("two", x.told(12), 2);
        x.strike(22);
        x.strike(0);
        e.is("more", x.told(12), NONE);
        x.even(23);
        e.is("none", x.told(12), 0);
        x.cycle(24);
        e.is("one", x.told(12), 1);
    }

    private static void ofLikeOnesTheLeast(Edges e) {
        e.says("Terms", "the SET of these (of like ones the least);");
        mended(e, "19.4x", 3, 7 << 19);
        mended(e, "x10.x.", 1, 1);
        mended(e, "5.x..x...", 0, 0);
        mended(e, "5.x.x4.", 0, 0);
        mended(e, ".x..", 0, 0);
        mended(e, "xxx..", 2, 3);
        mended(e, "..xxx", 2, 3);
        mended(e, ".xxx.", 2, 6);
        mended(e, "xxx.", 1, 1);
        mended(e, "x.xx", 1, 1);
        mended(e, ".xxx", 1, 1);
    }

    private static void moreThanThree(Edges e) {
        e.says("Terms", "NONE: more than 3.");
        mended(e, "5x18.", NONE, NONE);
        mended(e, "18.5x", NONE, NONE);
        mended(e, "19x4.", NONE, NONE);
        mended(e, "20x4.", NONE, NONE);
        mended(e, "x".repeat(5) + ".".repeat(8), NONE, NONE);
        e.says("Promise 5", "13 the SET (NONE),");
        e.is("none fills", Due.told("5x18.").told(13), NONE);
        e.is("it fills: the empty SET", Due.told("x").told(13), 0);
    }

    private static void mended(Edges e, String text, int fewest, int set) {
        TilingBeats x = Due.told(text);
        e.is("told(12) of " + text, x.told(12), fewest);
        e.is("told(13) of " + text, x.told(13), set);
        TilingBeats y = Due.told(text);
        e.is("told(13) of " + text + ", asked first", y.told(13), set);
    }
}
