/** Promises 11, 27 to 29, and the Terms KIN, IMAGES. */
final class ImageEdges {
    private static final int UNKNOWN = -1000000001, OUTSIDE = -1000000002, NOT = -1000000003;
    private static final int LEAST = Integer.MIN_VALUE, GREATEST = Integer.MAX_VALUE;

    private ImageEdges() {
    }

    static void all(Edges e) {
        kinds(e);
        kin(e);
        images(e);
        seed(e);
        keep(e);
        goBack(e);
    }

    private static void kinds(Edges e) {
        e.says("Terms", "KIN to an IMAGE, of as many BEATS: 1 MOVED, 2 BEHIND and MOVED, 4 OVER and MOVED, "
                + "8 OVER, BEHIND and MOVED (a SET of four bits); 0.");
        String kept = "xx.x....";
        kinIs(e, kept, "xx.x....", 1);
        kinIs(e, kept, "....xx.x", 1);
        kinIs(e, kept, "x.xx....", 2);
        kinIs(e, kept, "x....x.x", 2);
        kinIs(e, kept, "..x.xxxx", 4);
        kinIs(e, kept, "x..x.xxx", 4);
        kinIs(e, kept, ".x..xxxx", 8);
        kinIs(e, kept, "xxx.....", 0);
        kinIs(e, kept, "xx......", 0);
        kinIs(e, "xxx.....", ".xxx....", 3);
        kinIs(e, "xxx.....", "5x...", 12);
        kinIs(e, "xx..xx..", "..xx..xx", 15);
        kinIs(e, "xxx.x...", "xxx.x...", 9);
        kinIs(e, "x", "x", 3);
        kinIs(e, "x", ".", 12);
        kinIs(e, ".", "x", 12);
        kinIs(e, "24.", "24.", 3);
        kinIs(e, "24.", "24x", 12);
        kinIs(e, "23.x", "x23.", 3);
        kinIs(e, "12x12.", "6x12.6x", 15);
    }

    private static void kinIs(Edges e, String kept, String now, int want) {
        TilingBeats x = Due.told(kept);
        x.keep(1);
        Due.feed(x, now);
        x.tell();
        e.is(now + " to " + kept, x.kin(1), want);
    }

    private static void kin(Edges e) {
        e.says("Promise 11", "KIN.");
        TilingBeats x = Due.told("xx.x...");
        x.keep(0);
        x.behind();
        x.keep(1);
        e.is("to IMAGE 0", x.kin(0), 2);
        e.is("to IMAGE 1", x.kin(1), 1);

        e.says("Promise 11", "UNKNOWN, NOT: it was not kept, has not as many BEATS.");
        for (int i : new int[] {LEAST, -1, 2, GREATEST}) {
            e.is("kin(" + i + ")", x.kin(i), UNKNOWN);
        }
        e.is("kin(0) of a new object", new TilingBeats().kin(0), NOT);
        e.is("kin(1) of a new object", new TilingBeats().kin(1), NOT);
        TilingBeats one = new TilingBeats();
        one.keep(1);
        e.is("the other IMAGE was not kept", one.kin(0), NOT);
        x.cycle(8);
        e.is("more BEATS", x.kin(0), NOT);
        x.cycle(6);
        e.is("fewer BEATS", x.kin(1), NOT);
        x.cycle(7);
        e.holds("as many again", x.kin(0) >= 0);
    }

    private static void images(Edges e) {
        e.says("Terms", "IMAGES 0, 1 keep N, THE RHYTHM, THE SEED.");
        TilingBeats x = Due.told("x");
        x.seed(2147483647);
        x.keep(0);
        Due.feed(x, "23.x");
        x.tell();
        x.seed(0);
        x.keep(1);
        x.cycle(7);
        x.even(3);
        x.seed(44);
        x.goBack(0);
        e.is("N of 0", x.told(0), 1);
        e.is("THE RHYTHM of 0", x.told(2), 1);
        e.is("THE SEED of 0", x.seed(3), 2147483647);
        x.goBack(1);
        e.is("N of 1", x.told(0), 24);
        e.is("THE RHYTHM of 1", x.told(2), 8388608);
        e.is("THE SEED of 1", x.seed(3), 0);
        x.keep(0);
        x.goBack(1);
        e.is("IMAGE 0 kept anew leaves 1", x.seed(8), 0);
        x.goBack(0);
        e.is("IMAGE 0 kept anew", x.seed(8), 3);
    }

    private static void seed(Edges e) {
        e.says("Promise 27", "THE SEED becomes v (0 .. 2147483647): what it was.");
        TilingBeats x = new TilingBeats();
        e.is("seed(2147483647)", x.seed(2147483647), 0);
        e.is("seed(0)", x.seed(0), 2147483647);
        e.is("seed(1)", x.seed(1), 0);
        e.says("Promise 27", "OUTSIDE.");
        e.is("seed(-1)", x.seed(-1), OUTSIDE);
        e.is("seed(least)", x.seed(LEAST), OUTSIDE);
        e.is("THE SEED stays", x.seed(1), 1);
    }

    private static void keep(Edges e) {
        e.says("Promise 28", "IMAGE i becomes what is so (nothing can be undone then): 1.");
        TilingBeats x = new TilingBeats();
        x.drift(30);
        e.is("keep(0)", x.keep(0), 1);
        e.is("told(16)", x.told(16), 0);
        e.is("undo(1)", x.undo(1), NOT);
        x.over();
        e.is("keep(0) again", x.keep(0), 1);
        int rhythm = x.told(2);
        x.over();
        x.goBack(0);
        e.is("the later one", x.told(2), rhythm);
        x.hear(3, true);
        x.feed('x');
        e.is("keep(1)", x.keep(1), 1);
        e.is("what is HEARD stays", x.told(15), 1);
        e.is("THE TEXT stays", x.told(14), 1);

        e.says("Promise 28", "UNKNOWN.");
        x.over();
        for (int i : new int[] {LEAST, -1, 2, GREATEST}) {
            e.is("keep(" + i + ")", x.keep(i), UNKNOWN);
        }
        e.is("the deed can be undone", x.told(16), 1);
    }

    private static void goBack(Edges e) {
        e.says("Promise 29", "What is so becomes IMAGE i (nothing can be undone then): 1.");
        TilingBeats x = Due.told("x..");
        x.keep(0);
        x.drift(30);
        x.hear(2, true);
        x.feed('x');
        e.is("goBack(0)", x.goBack(0), 1);
        e.is("N", x.told(0), 3);
        e.is("THE RHYTHM", x.told(2), 1);
        e.is("THE SEED", x.seed(0), 0);
        e.is("told(16)", x.told(16), 0);
        e.is("undo(1)", x.undo(1), NOT);
        e.is("what is HEARD stays", x.told(15), 1);
        e.is("THE TEXT stays", x.told(14), 1);
        x.over();
        e.is("goBack(0) again", x.goBack(0), 1);
        e.is("THE RHYTHM", x.told(2), 1);

        e.says("Promise 29", "UNKNOWN, NOT: it was not kept.");
        x.over();
        for (int i : new int[] {LEAST, -1, 2, GREATEST}) {
            e.is("goBack(" + i + ")", x.goBack(i), UNKNOWN);
        }
        e.is("goBack(1)", x.goBack(1), NOT);
        e.is("the deed can be undone", x.told(16), 1);
        e.is("goBack(0) of a new object", new TilingBeats().goBack(0), NOT);
    }
}
