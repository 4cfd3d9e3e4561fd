/** Promises 13 to 22: strike, even, turn, over, behind, stretch, twice, cycle, drift, undo. */
public final class DeedsTest {
    private static final Due due = new Due("DeedsTest");

    public static void main(String[] args) {
        strike();
        even();
        turn();
        overAndBehind();
        stretch();
        twice();
        cycle();
        drift();
        undo();
        undoKeepsThirty();
        refusedDeedsAreNone();
        due.end();
    }

    private static void strike() {
        TilingBeats x = new TilingBeats();
        due.is("strike(0)", x.strike(0), 1);
        due.is("strike(15)", x.strike(15), 1);
        due.is("rhythm", x.told(2), 32769);
        due.is("strike(0) again", x.strike(0), 0);
        due.is("rhythm", x.told(2), 32768);
        due.is("strike(16)", x.strike(16), TilingBeats.UNKNOWN);
        due.is("strike(-1)", x.strike(-1), TilingBeats.UNKNOWN);
        due.is("strike(least)", x.strike(Integer.MIN_VALUE), TilingBeats.UNKNOWN);
        due.is("deeds", x.told(16), 3);
    }

    private static void even() {
        TilingBeats x = Due.told("8x");
        due.is("even(3)", x.even(3), 73);
        due.is("even(5)", x.even(5), 1 | 1 << 2 | 1 << 4 | 1 << 5 | 1 << 7);
        due.is("even(0)", x.even(0), 0);
        due.is("even(8)", x.even(8), 255);
        due.is("even(1)", x.even(1), 1);
        due.is("even(9)", x.even(9), TilingBeats.OUTSIDE);
        due.is("even(-1)", x.even(-1), TilingBeats.OUTSIDE);
        due.is("rhythm", x.told(2), 1);
    }

    private static void turn() {
        TilingBeats x = Due.told("xx..x");
        due.is("turn(0)", x.turn(0), 19);
        due.is("turn(1)", x.turn(1), 7);
        due.is("turn(4)", x.turn(4), 19);
        due.is("turn(5)", x.turn(5), 19);
        due.is("turn(23)", x.turn(23), 28);
        due.is("turn(24)", x.turn(24), TilingBeats.OUTSIDE);
        due.is("turn(-1)", x.turn(-1), TilingBeats.OUTSIDE);
        due.is("turn of 24 beats", Due.told("23.x").turn(23), 1 << 22);
        due.is("turn of one beat", Due.told("x").turn(23), 1);
    }

    private static void overAndBehind() {
        TilingBeats x = Due.told("xx.x....");
        due.is("over()", x.over(), 244);
        due.is("over() again", x.over(), 11);
        due.is("behind()", x.behind(), 1 | 1 << 7 | 1 << 5);
        due.is("behind() again", x.behind(), 11);
        due.is("over() of 24", Due.told("24.").over(), 16777215);
        due.is("behind() of one", Due.told("x").behind(), 1);
        due.is("behind() of an odd cycle", Due.told(".x...").behind(), 16);
    }

    private static void stretch() {
        TilingBeats x = Due.told("xx..xx..");
        due.is("stretch(3)", x.stretch(3), 1 | 1 << 3 | 1 << 4 | 1 << 7);
        due.is("stretch(1)", x.stretch(1), 153);
        due.is("stretch(23)", x.stretch(23), 1 | 1 << 5 | 1 << 4 | 1 << 1);
        due.is("stretch(2)", x.stretch(2), TilingBeats.NOT);
        due.is("stretch(8)", x.stretch(8), TilingBeats.NOT);
        due.is("stretch(0)", x.stretch(0), TilingBeats.OUTSIDE);
        due.is("stretch(24)", x.stretch(24), TilingBeats.OUTSIDE);
        due.is("deeds", x.told(16), 4);
        due.is("beats count, struck or not", Due.told("x.......").stretch(2), TilingBeats.NOT);
        due.is("one beat", Due.told("x").stretch(22), 1);
        due.is("24 beats", Due.told("6x18.").stretch(5), 1082403);
    }

    private static void twice() {
        TilingBeats x = Due.told("xx.");
        due.is("twice() of 3", x.twice(), 6);
        due.is("rhythm", x.told(2), 27);
        due.is("twice() of 6", x.twice(), 12);
        due.is("twice() of 12", x.twice(), 24);
        due.is("rhythm", x.told(2), 0b011011011011011011011011);
        due.is("twice() of 24", x.twice(), TilingBeats.FULL);
        due.is("twice() of 13", Due.told("13x").twice(), TilingBeats.FULL);
        due.is("deeds", x.told(16), 4);
    }

    private static void cycle() {
        TilingBeats x = Due.told("8x");
        due.is("cycle(5)", x.cycle(5), 5);
        due.is("rhythm", x.told(2), 31);
        due.is("cycle(24)", x.cycle(24), 5);
        due.is("beats", x.told(0), 24);
        due.is("rhythm", x.told(2), 31);
        due.is("cycle(24) again is a deed", x.cycle(24), 5);
        due.is("deeds", x.told(16), 4);
        due.is("cycle(1)", x.cycle(1), 1);
        due.is("cycle(0)", x.cycle(0), TilingBeats.OUTSIDE);
        due.is("cycle(25)", x.cycle(25), TilingBeats.OUTSIDE);
        due.is("beats", x.told(0), 1);
    }

    private static void drift() {
        for (int n = 1; n <= 24; n++) {
            TilingBeats x = new TilingBeats();
            x.cycle(n);
            x.seed(2147483647 - n);
            Model like = new Model();
            like.cycle(n);
            like.seed(2147483647 - n);
            due.is("drift(30) of " + n, x.drift(30), like.drift(30));
            due.is("seed of " + n, x.seed(0), like.seed(0));
            due.is("deeds", x.told(16), 30);
        }
        TilingBeats x = new TilingBeats();
        due.is("drift(1) from 0", x.drift(1), 1 << 12);
        due.is("seed after two draws", x.seed(5), 1406932606);
        due.is("drift(0)", x.drift(0), TilingBeats.OUTSIDE);
        due.is("drift(31)", x.drift(31), TilingBeats.OUTSIDE);
        due.is("no draw by a refusal", x.seed(5), 5);
        due.is("drift(3)", x.drift(3) >= 0 ? 1 : 0, 1);
        due.is("three deeds more", x.told(16), 4);
        int seed = x.seed(0);
        x.seed(seed);
        x.undo(3);
        due.is("rhythm ahead of it", x.told(2), 1 << 12);
        due.is("the seed stays", x.seed(0), seed);
    }

    private static void undo() {
        TilingBeats x = Due.told("xx..");
        x.twice();
        x.cycle(5);
        x.strike(4);
        x.over();
        x.behind();
        x.even(2);
        x.turn(1);
        x.stretch(2);
        due.is("deeds", x.told(16), 9);
        due.is("undo(10)", x.undo(10), TilingBeats.NOT);
        due.is("undo(0)", x.undo(0), TilingBeats.OUTSIDE);
        due.is("undo(31)", x.undo(31), TilingBeats.OUTSIDE);
        due.is("undo(-1)", x.undo(-1), TilingBeats.OUTSIDE);
        due.is("undo(1): turn", x.undo(1), 5);
        due.is("rhythm", x.told(2), 1 << 1 | 1 << 4);
        due.is("undo(2)", x.undo(2), 5);
        due.is("rhythm", x.told(2), 1 << 1 | 1 << 2 | 1 << 3);
        due.is("undo(4)", x.undo(4), 8);
        due.is("rhythm", x.told(2), 51);
        due.is("deeds", x.told(16), 2);
        due.is("undo(2)", x.undo(2), 16);
        due.is("rhythm", x.told(2), 0);
        due.is("deeds", x.told(16), 0);
        due.is("undo(1)", x.undo(1), TilingBeats.NOT);
    }

    private static void undoKeepsThirty() {
        TilingBeats x = new TilingBeats();
        for (int i = 0; i < 70; i++) {
            x.strike(i % 16);
        }
        due.is("deeds", x.told(16), 30);
        due.is("undo(30)", x.undo(30), 16);
        int left = 0;
        for (int i = 0; i < 40; i++) {
            left ^= 1 << i % 16;
        }
        due.is("rhythm after 40", x.told(2), left);
        due.is("undo(1)", x.undo(1), TilingBeats.NOT);
        x.strike(3);
        due.is("deeds", x.told(16), 1);
        due.is("undo(1)", x.undo(1), 16);
        due.is("rhythm", x.told(2), left);
    }

    private static void refusedDeedsAreNone() {
        TilingBeats x = Due.told("24x");
        x.keep(0);
        x.strike(24);
        x.even(25);
        x.turn(24);
        x.stretch(2);
        x.twice();
        x.cycle(25);
        x.drift(31);
        x.tell();
        due.is("deeds", x.told(16), 0);
        due.is("beats", x.told(0), 24);
        due.is("rhythm", x.told(2), 16777215);
    }
}
