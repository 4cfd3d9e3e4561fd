/** Promises 6 and 7, and of 5 what fills: tiling, who, told(3), told(12), told(13). */
public final class TilingTest {
    private static final Due due = new Due("TilingTest");

    public static void main(String[] args) {
        tilings();
        refusals();
        aChangedRhythmIsLookedAtAnew();
        strikers();
        mending();
        due.end();
    }

    private static void tilings() {
        TilingBeats x = Due.told("x11.x11.");
        due.is("count", x.told(3), 2048);
        due.is("first", x.tiling(0, 0), 4095);
        due.is("size", x.tiling(0, 1), 12);
        due.is("last", x.tiling(2047, 0), 16769025);
        for (int i = 1; i < 400; i++) {
            due.holds("they rise at " + i, x.tiling(i, 0) > x.tiling(i - 1, 0));
        }
        TilingBeats most = Due.told("x7.x7.x7.");
        due.is("most of all", most.told(3), 2187);
        due.is("its last", most.tiling(2186, 0), 16646145);
        TilingBeats six = Due.told("6x18.");
        due.is("one way", six.told(3), 1);
        due.is("set", six.tiling(0, 0), 266305);
        due.is("size", six.tiling(0, 1), 4);
        due.is("period", six.tiling(0, 2), 6);
        due.is("all struck", Due.told("5x").tiling(0, 0), 1);
        due.is("all struck, period", Due.told("5x").tiling(0, 2), 5);
        due.is("one struck", Due.told("..x..").tiling(0, 0), 31);
        due.is("one struck, period", Due.told("..x..").tiling(0, 2), 1);
        due.is("one beat", Due.told("x").tiling(0, 0), 1);
        due.is("none struck", Due.told("....").told(3), 0);
        due.is("as many as divide, yet none", Due.told("x..x..xx").told(3), 0);
    }

    private static void refusals() {
        TilingBeats x = Due.told("xx..");
        due.is("tiling(0, 3)", x.tiling(0, 3), TilingBeats.OUTSIDE);
        due.is("tiling(0, -1)", x.tiling(0, -1), TilingBeats.OUTSIDE);
        due.is("tiling(1, 0)", x.tiling(1, 0), TilingBeats.UNKNOWN);
        due.is("tiling(-1, 0)", x.tiling(-1, 0), TilingBeats.UNKNOWN);
        due.is("unknown goes before outside", x.tiling(1, 9), TilingBeats.UNKNOWN);
        due.is("who(1, 0)", x.who(1, 0), TilingBeats.UNKNOWN);
        due.is("who(-1, 0)", x.who(-1, 0), TilingBeats.UNKNOWN);
        due.is("who(0, 4)", x.who(0, 4), TilingBeats.UNKNOWN);
        due.is("who(0, -1)", x.who(0, -1), TilingBeats.UNKNOWN);
        due.is("who(0, greatest)", x.who(0, Integer.MAX_VALUE), TilingBeats.UNKNOWN);
        due.is("nothing changed", x.told(16), 1);
    }

    private static void aChangedRhythmIsLookedAtAnew() {
        TilingBeats x = Due.told("x.x.");
        due.is("two ways", x.told(3), 2);
        x.strike(2);
        due.is("one way", x.told(3), 1);
        due.is("all shifts", x.tiling(0, 0), 15);
        x.cycle(5);
        due.is("more beats", x.tiling(0, 0), 31);
        x.undo(2);
        due.is("as before", x.tiling(1, 0), 9);
        x.keep(0);
        x.over();
        x.strike(0);
        due.is("none", x.told(3), 0);
        due.is("mended", x.told(13), 1);
        x.goBack(0);
        due.is("as before that", x.told(3), 2);
        due.is("nothing to mend", x.told(13), 0);
    }

    private static void strikers() {
        TilingBeats x = Due.told("xx..xx..");
        int[][] answers = {{0, 0, 2, 2, 0, 0, 2, 2}, {0, 0, 6, 6, 0, 0, 6, 6}};
        for (int i = 0; i < 2; i++) {
            for (int beat = 0; beat < 8; beat++) {
                due.is("who(" + i + ", " + beat + ")", x.who(i, beat), answers[i][beat]);
            }
        }
        TilingBeats later = Due.told(".xx.");
        due.is("shifts, not beats", later.who(0, 0), 2);
        due.is("shifts, not beats", later.who(0, 1), 0);
    }

    private static void mending() {
        mended("xx..xx..", 0, 0);
        mended("........", 1, 1);
        mended("x..x..x.", 1, 1);
        mended("x..x..xx", 2, 5);
        mended("3x3.3x3.3x9.", 3, 7);
        mended("21x3.", 3, 7 << 21);
        mended("20x4.", TilingBeats.NONE, TilingBeats.NONE);
        mended("12x11.", TilingBeats.NONE, TilingBeats.NONE);
        mended(".", 1, 1);
        mended("x", 0, 0);
        mended("xxxx.", 1, 16);
        mended("xxx..", 2, 3);
    }

    private static void mended(String text, int fewest, int set) {
        TilingBeats x = Due.told(text);
        due.is("fewest '" + text + "'", x.told(12), fewest);
        due.is("which '" + text + "'", x.told(13), set);
    }
}
