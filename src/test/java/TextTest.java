/** Promises 1 to 4: a new object, feed, tell, fault. */
public final class TextTest {
    private static final Due due = new Due("TextTest");

    public static void main(String[] args) {
        newObject();
        feed();
        goodTexts();
        faults();
        whatATellLeaves();
        due.end();
    }

    private static void newObject() {
        int[] answers = {16, 0, 0, 0, 1, 0, 0, 0, -1, -1, -1, 1, 1, 1, 0, 0, 0};
        TilingBeats x = new TilingBeats();
        for (int what = 0; what < answers.length; what++) {
            due.is("new told(" + what + ")", x.told(what), answers[what]);
        }
        due.is("new fault()", x.fault(), TilingBeats.NONE);
        due.is("new seed", x.seed(0), 0);
        due.is("new goBack(0)", x.goBack(0), TilingBeats.NOT);
        due.is("new goBack(1)", x.goBack(1), TilingBeats.NOT);
        due.is("new moves()", x.moves(), 65535);
        due.is("new undo(1)", x.undo(1), TilingBeats.NOT);
    }

    private static void feed() {
        TilingBeats x = new TilingBeats();
        due.is("feed(-1)", x.feed(-1), TilingBeats.OUTSIDE);
        due.is("feed(256)", x.feed(256), TilingBeats.OUTSIDE);
        due.is("feed(0)", x.feed(0), 1);
        due.is("feed(255)", x.feed(255), 2);
        for (int i = 3; i <= 60; i++) {
            due.is("feed " + i, x.feed(' '), i);
        }
        due.is("feed 61", x.feed('x'), TilingBeats.FULL);
        due.is("outside goes before full", x.feed(300), TilingBeats.OUTSIDE);
        due.is("letters", x.told(14), 60);
        due.is("tell", x.tell(), -11);
        due.is("letter 0", x.fault(), 0);
        due.is("letters then", x.told(14), 0);
        due.is("feed again", x.feed('x'), 1);
    }

    private static void goodTexts() {
        good("x", 1, 1);
        good(".", 1, 0);
        good(" x ", 1, 1);
        good("x..x..x.", 8, 73);
        good("2 x 3 . x", 6, 35);
        good("24x", 24, 16777215);
        good("24.", 24, 0);
        good("10x14.", 24, 1023);
        good("1x1.20x", 22, 4194301);
        good("23.x", 24, 1 << 23);
        good("9.x9.x", 20, (1 << 9) | (1 << 19));
        good(" ".repeat(59) + "x", 1, 1);
    }

    private static void good(String text, int beats, int set) {
        TilingBeats x = new TilingBeats();
        Due.feed(x, text);
        due.is("tell '" + text + "'", x.tell(), beats);
        due.is("fault '" + text + "'", x.fault(), TilingBeats.NONE);
        due.is("beats '" + text + "'", x.told(0), beats);
        due.is("set '" + text + "'", x.told(2), set);
        due.is("text '" + text + "'", x.told(14), 0);
    }

    private static void faults() {
        bad("", 1, 0);
        bad("   ", 1, 3);
        bad("y", 1, 0);
        bad("X", 1, 0);
        bad("x\t", 1, 1);
        bad("x;", 1, 1);
        bad("0x", 1, 0);
        bad("000x", 1, 0);
        bad("x 0x", 1, 2);
        bad("3", 1, 1);
        bad("3 ", 1, 2);
        bad("xx3", 1, 3);
        bad("3 4x", 1, 2);
        bad("3 0x", 1, 2);
        bad("3 123x", 1, 2);
        bad("3 25x", 1, 2);
        bad("3;x", 1, 1);
        bad("25x", 2, 0);
        bad("25", 2, 0);
        bad("99;", 2, 0);
        bad("100x", 2, 0);
        bad("123", 2, 0);
        bad("x 240x", 2, 2);
        bad("9".repeat(60), 2, 0);
        bad("24x.", 3, 3);
        bad("24x 1 .", 3, 6);
        bad("24x 25.", 2, 4);
        bad("24x;", 1, 3);
        bad("12x13.", 3, 5);
        bad("12x 13 .y", 3, 7);
        bad("x".repeat(25), 3, 24);
        bad("x".repeat(24) + "   ;", 1, 27);
    }

    private static void bad(String text, int number, int at) {
        TilingBeats x = Due.told("x.x");
        x.hear(1, true);
        Due.feed(x, text);
        due.is("tell '" + text + "'", x.tell(), -10 - number);
        due.is("fault '" + text + "'", x.fault(), at);
        due.is("the text is empty", x.told(14), 0);
        due.is("beats as they were", x.told(0), 3);
        due.is("rhythm as it was", x.told(2), 5);
        due.is("heard as it was", x.told(15), 1);
        due.is("no deed", x.told(16), 1);
    }

    private static void whatATellLeaves() {
        TilingBeats x = new TilingBeats();
        Due.feed(x, ";");
        x.tell();
        x.hear(3, true);
        Due.feed(x, "x.");
        due.is("fault of the latest tell, not of the text", x.fault(), 0);
        due.is("tell", x.tell(), 2);
        due.is("no fault any more", x.fault(), TilingBeats.NONE);
        due.is("nothing heard", x.told(15), 0);
        due.is("undo of tell", x.undo(1), 16);
        due.is("rhythm then", x.told(2), 0);
        due.is("still nothing heard", x.told(15), 0);
    }
}
