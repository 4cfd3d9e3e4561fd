/** Promises 1 to 4 and the text of the Terms. */
final class TextEdges {
    private static final int NONE = -1, OUTSIDE = -1000000002, UNKNOWN = -1000000001, FULL = -1000000004;

    private TextEdges() {
    }

    static void all(Edges e) {
        theCycle(e);
        letters(e);
        howMany(e);
        numbers(e);
        blanks(e);
        firstAndLeastFault(e);
        fault1(e);
        fault2(e);
        fault3(e);
        newObject(e);
        feed(e);
        tell(e);
        fault(e);
    }

    // ---- the Terms

    private static void theCycle(Edges e) {
        e.says("Terms", "THE CYCLE has N BEATS, 0 to N less 1 (N 1 .. 24; 16 at first), "
                + "THE RHYTHM is the SET of those that are STRUCK (none at first).");
        TilingBeats x = new TilingBeats();
        e.is("N at first", x.told(0), 16);
        e.is("none at first", x.told(2), 0);
        for (int n = 1; n <= 24; n++) {
            TilingBeats y = new TilingBeats();
            e.is("cycle(" + n + ")", y.cycle(n), 0);
            e.is("BEAT N less 1 of " + n, y.strike(n - 1), 1);
            e.is("BEAT N of " + n, y.strike(n), UNKNOWN);
            e.is("THE RHYTHM of " + n, y.told(2), 1 << n - 1);
        }
        e.is("N 0", x.cycle(0), OUTSIDE);
        e.is("N 25", x.cycle(25), OUTSIDE);
    }

    private static void letters(Edges e) {
        e.says("Terms", "It is told in a text (60 letters at most), letter by letter: 'x' a BEAT that is "
                + "STRUCK, '.' one that is not, from BEAT 0 on;");
        good(e, "x.", 2, 1);
        good(e, ".x", 2, 2);
        good(e, "x......................x", 24, 1 | 1 << 23);
        good(e, ".xxxxxxxxxxxxxxxxxxxxxx.", 24, 16777215 ^ 1 ^ 1 << 23);
        good(e, " ".repeat(59) + "x", 1, 1);
        good(e, "x" + " ".repeat(58) + ".", 2, 1);
        TilingBeats x = new TilingBeats();
        Due.feed(x, " ".repeat(59) + "x");
        e.is("letter 61", x.feed('x'), FULL);
        e.is("and it was not taken", x.tell(), 1);
    }

    private static void howMany(Edges e) {
        e.says("Terms", "1 to 24 of both;");
        bad(e, "", 1, 0);
        good(e, "x", 1, 1);
        good(e, ".", 1, 0);
        good(e, "x".repeat(24), 24, 16777215);
        good(e, ".".repeat(24), 24, 0);
        good(e, "x.".repeat(12), 24, 5592405);
        bad(e, "x".repeat(25), 3, 24);
        bad(e, ".".repeat(25), 3, 24);
        bad(e, "x.".repeat(12) + "x", 3, 24);
        bad(e, "x.".repeat(30), 3, 24);
    }

    private static void numbers(Edges e) {
        e.says("Terms", "a number before 'x' or '.' (1 to 24, one or two figures, no 0 at its head) "
                + "tells it so often;");
        for (int n = 1; n <= 24; n++) {
            good(e, n + "x", n, (1 << n) - 1);
            good(e, n + ".", n, 0);
        }
        good(e, "1x1.", 2, 1);
        good(e, "9x10.", 19, 511);
        good(e, "10.9x", 19, 511 << 10);
        good(e, "2x.2x", 5, 27);
        bad(e, "0x", 1, 0);
        bad(e, "0.", 1, 0);
        bad(e, "00x", 1, 0);
        bad(e, "01x", 1, 0);
        bad(e, "09.", 1, 0);
        bad(e, "x024x", 1, 1);
        bad(e, "25.", 2, 0);
    }

    private static void blanks(Edges e) {
        e.says("Terms", "blanks (32) may stand anywhere but within numbers.");
        good(e, "  x  .  x  ", 3, 5);
        good(e, "2 x", 2, 3);
        good(e, "12   .", 12, 0);
        good(e, " 3 x 2 . ", 5, 7);
        bad(e, "1 2x", 1, 2);
        bad(e, "2   4x", 1, 4);
        bad(e, "x 1 0x", 1, 4);
        bad(e, "x" + (char) 9, 1, 1);
        bad(e, "x" + (char) 10, 1, 1);
        bad(e, (char) 31 + "x", 1, 0);
        bad(e, (char) 160 + "x", 1, 0);
    }

    private static void firstAndLeastFault(Edges e) {
        e.says("Terms", "FAULTS, at the first letter that has one (the end at the text's length), "
                + "of these the least:");
        bad(e, ";0x", 1, 0);
        bad(e, "25x;", 2, 0);
        bad(e, "x;25x", 1, 1);
        bad(e, "24x.;", 3, 3);
        bad(e, "24x;.", 1, 3);
        bad(e, "24x 25.", 2, 4);
        bad(e, "25x 24x.", 2, 0);
        bad(e, "3;x", 1, 1);
        bad(e, "3 25x", 1, 2);
        bad(e, "3 123x", 1, 2);
        bad(e, "000x", 1, 0);
        bad(e, "0123x", 1, 0);
        bad(e, "x3", 1, 2);
        bad(e, " ".repeat(59) + "3", 1, 60);
        bad(e, " ".repeat(60), 1, 60);
    }

    private static void fault1(Edges e) {
        e.says("Terms", "1 it cannot stand there (another letter; a figure 0 at the head; the end behind "
                + "a number; the end without any BEAT).");
        for (int letter = 0; letter <= 255; letter++) {
            String text = "x" + (char) letter;
            if (letter == 'x') {
                good(e, text, 2, 3);
            } else if (letter == '.') {
                good(e, text, 2, 1);
            } else if (letter == ' ') {
                good(e, text, 1, 1);
            } else {
                boolean number = letter >= '1' && letter <= '9';
                bad(e, text, 1, number ? 2 : 1);
            }
        }
        bad(e, "0", 1, 0);
        bad(e, "x 0", 1, 2);
        bad(e, "3", 1, 1);
        bad(e, "24", 1, 2);
        bad(e, "x 3  ", 1, 5);
        bad(e, "24x 3", 1, 5);
        bad(e, "", 1, 0);
        bad(e, " ", 1, 1);
        bad(e, "   ", 1, 3);
    }

    private static void fault2(Edges e) {
        e.says("Terms", "2 a number of three figures or more, or above 24 (at its first).");
        for (int number = 25; number <= 999; number++) {
            bad(e, number + "x", 2, 0);
        }
        bad(e, "x. 25.", 2, 3);
        bad(e, "x. 100.", 2, 3);
        bad(e, "25", 2, 0);
        bad(e, "240", 2, 0);
        bad(e, "1000x", 2, 0);
        bad(e, "4294967297x", 2, 0);
        bad(e, "1".repeat(60), 2, 0);
        bad(e, "x" + "2".repeat(59), 2, 1);
    }

    private static void fault3(Edges e) {
        e.says("Terms", "3 by this 'x' or '.' there are more than 24 BEATS (at it).");
        good(e, "23xx", 24, 16777215);
        good(e, "x23.", 24, 1);
        good(e, "20x4.", 24, 1048575);
        bad(e, "24xx", 3, 3);
        bad(e, "24x.", 3, 3);
        bad(e, "x24.", 3, 3);
        bad(e, "x 24 .", 3, 5);
        bad(e, "20x5.", 3, 4);
        bad(e, "24x24x", 3, 5);
        bad(e, "24x  24  x", 3, 9);
    }

    // ---- the promises

    private static void newObject(Edges e) {
        e.says("Promise 1", "16 BEATS, none STRUCK.");
        TilingBeats x = new TilingBeats();
        e.is("told(0)", x.told(0), 16);
        e.is("told(1)", x.told(1), 0);
        e.is("told(2)", x.told(2), 0);
        e.is("BEAT 15", x.strike(15), 1);
        e.is("BEAT 16", x.strike(16), UNKNOWN);
        TilingBeats y = new TilingBeats();
        e.is("letters", y.told(14), 0);
        e.is("heard", y.told(15), 0);
        e.is("to undo", y.told(16), 0);
        e.is("fault", y.fault(), NONE);
        e.is("another object's strike is not seen", y.told(2), 0);
    }

    private static void feed(Edges e) {
        e.says("Promise 2", "A letter (0 .. 255) comes behind THE TEXT: how many it has.");
        TilingBeats x = new TilingBeats();
        e.is("feed(0)", x.feed(0), 1);
        e.is("feed(255)", x.feed(255), 2);
        e.is("told(14)", x.told(14), 2);
        TilingBeats y = new TilingBeats();
        y.feed('.');
        y.feed('x');
        y.tell();
        e.is("behind, not ahead", y.told(2), 2);

        e.says("Promise 2", "OUTSIDE, FULL (60).");
        e.is("feed(-1)", x.feed(-1), OUTSIDE);
        e.is("feed(256)", x.feed(256), OUTSIDE);
        e.is("feed(least)", x.feed(Integer.MIN_VALUE), OUTSIDE);
        e.is("feed(greatest)", x.feed(Integer.MAX_VALUE), OUTSIDE);
        e.is("a refused letter is not taken", x.told(14), 2);
        for (int i = 3; i <= 60; i++) {
            e.is("letter " + i, x.feed(i), i);
        }
        e.is("letter 61", x.feed(61), FULL);
        e.is("letter 61 again", x.feed(61), FULL);
        e.is("told(14)", x.told(14), 60);
        x.tell();
        e.is("after tell()", x.feed(61), 1);
    }

    private static void tell(Edges e) {
        e.says("Promise 3", "THE TEXT (it is empty then, with a FAULT, too) becomes THE RHYTHM");
        TilingBeats x = new TilingBeats();
        Due.feed(x, "x.x");
        x.tell();
        e.is("told(2)", x.told(2), 5);
        e.is("empty", x.told(14), 0);
        Due.feed(x, ";;;;");
        x.tell();
        e.is("empty with a FAULT", x.told(14), 0);
        Due.feed(x, ".x");
        e.is("nothing of it is left", x.tell(), 2);
        e.is("told(2)", x.told(2), 2);
        Due.feed(x, "x3");
        x.tell();
        Due.feed(x, "x");
        e.is("nor of a number at its end", x.tell(), 1);

        e.says("Promise 3", "(nothing HEARD): N;");
        x.hear(0, true);
        x.hear(1, true);
        Due.feed(x, "7x");
        e.is("N", x.tell(), 7);
        e.is("heard", x.told(15), 0);
        e.is("moves", x.moves(), 127);

        e.says("Promise 3", "-10 less the number of its FAULT (all is as it was).");
        TilingBeats y = heardAndDone();
        TilingBeats like = heardAndDone();
        Due.feed(y, ";");
        e.is("FAULT 1", y.tell(), -11);
        Due.feed(y, "25x");
        e.is("FAULT 2", y.tell(), -12);
        Due.feed(y, "24xx");
        e.is("FAULT 3", y.tell(), -13);
        e.is("the empty text", y.tell(), -11);
        like.tell();
        e.same("faults", y, like);
    }

    private static TilingBeats heardAndDone() {
        TilingBeats x = Due.told("x..x..x.");
        x.keep(1);
        x.turn(3);
        x.seed(5);
        x.hear(2, false);
        return x;
    }

    private static void fault(Edges e) {
        e.says("Promise 4", "The letter of the FAULT of the latest tell(); NONE.");
        TilingBeats x = new TilingBeats();
        e.is("ahead of any tell()", x.fault(), NONE);
        Due.feed(x, "xx;");
        e.is("fed, not told", x.fault(), NONE);
        x.tell();
        e.is("letter 2", x.fault(), 2);
        Due.feed(x, "x");
        e.is("the next text is not told yet", x.fault(), 2);
        x.strike(0);
        x.keep(0);
        x.goBack(0);
        x.forget();
        e.is("other calls leave it", x.fault(), 2);
        x.tell();
        e.is("no FAULT", x.fault(), NONE);
        x.tell();
        e.is("the empty text", x.fault(), 0);
        Due.feed(x, " ".repeat(60));
        x.tell();
        e.is("the end of 60 letters", x.fault(), 60);
        Due.feed(x, ";");
        x.tell();
        e.is("letter 0", x.fault(), 0);
    }

    private static void good(Edges e, String text, int beats, int set) {
        TilingBeats x = new TilingBeats();
        Due.feed(x, text);
        e.is("tell '" + text + "'", x.tell(), beats);
        e.is("fault '" + text + "'", x.fault(), NONE);
        e.is("N of '" + text + "'", x.told(0), beats);
        e.is("rhythm of '" + text + "'", x.told(2), set);
    }

    private static void bad(Edges e, String text, int number, int at) {
        TilingBeats x = new TilingBeats();
        Due.feed(x, text);
        e.is("tell '" + text + "'", x.tell(), -10 - number);
        e.is("fault '" + text + "'", x.fault(), at);
        e.is("N after '" + text + "'", x.told(0), 16);
    }
}
