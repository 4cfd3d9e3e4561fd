/** Promises 23 to 26: hear, moves, listen, forget. */
public final class HeardTest {
    private static final Due due = new Due("HeardTest");

    public static void main(String[] args) {
        hear();
        moves();
        listen();
        whatStaysHeard();
        due.end();
    }

    private static void hear() {
        TilingBeats x = Due.told("x..x..x.");
        due.is("hear(8)", x.hear(8, true), TilingBeats.UNKNOWN);
        due.is("hear(-1)", x.hear(-1, false), TilingBeats.UNKNOWN);
        for (int i = 1; i <= 8; i++) {
            due.is("hear " + i, x.hear(i % 8, i % 2 == 0), i);
        }
        due.is("hear 9", x.hear(0, true), TilingBeats.FULL);
        due.is("unknown goes before full", x.hear(8, true), TilingBeats.UNKNOWN);
        due.is("heard", x.told(15), 8);
        due.is("forget()", x.forget(), 8);
        due.is("forget() again", x.forget(), 0);
        due.is("heard", x.told(15), 0);
        due.is("hear again", x.hear(0, true), 1);
        due.is("no deed", x.told(16), 1);
    }

    private static void moves() {
        TilingBeats x = Due.told("x..x..x.");
        due.is("nothing heard", x.moves(), 255);
        x.hear(2, true);
        due.is("2 struck", x.moves(), 1 << 2 | 1 << 7 | 1 << 4);
        x.hear(5, false);
        due.is("5 not", x.moves(), 1 << 4);
        x.hear(2, false);
        due.is("at odds", x.moves(), 0);
        TilingBeats same = Due.told("x.x.");
        same.hear(1, true);
        due.is("turns that are the same count", same.moves(), 10);
        TilingBeats none = Due.told("....");
        none.hear(1, true);
        due.is("none struck", none.moves(), 0);
    }

    private static void listen() {
        TilingBeats x = Due.told("x..x..x.");
        due.is("best: 3 and 5 everywhere, the least beat", x.listen(), 0);
        x.hear(0, true);
        due.is("of t 0, 2, 5", x.moves(), 1 | 1 << 2 | 1 << 5);
        due.is("listen", x.listen(), 2);
        x.hear(2, false);
        due.is("of t 0, 5", x.moves(), 1 | 1 << 5);
        due.is("listen", x.listen(), 5);
        x.hear(5, true);
        due.is("one is left", x.moves(), 1 << 5);
        due.is("none parts one", x.listen(), TilingBeats.NONE);
        due.is("none struck", Due.told("....").listen(), TilingBeats.NONE);
        due.is("all struck", Due.told("xxxx").listen(), TilingBeats.NONE);
        due.is("one beat", Due.told("x").listen(), TilingBeats.NONE);
        TilingBeats odd = Due.told("xxx.....");
        odd.hear(0, false);
        due.is("of t 1 to 5: 3 and 2, the least beat", odd.listen(), 2);
        odd.hear(3, true);
        odd.hear(3, false);
        due.is("at odds", odd.listen(), TilingBeats.NONE);
    }

    private static void whatStaysHeard() {
        TilingBeats x = Due.told("x..x..x.");
        x.hear(7, true);
        due.is("moves", x.moves(), 1 << 7 | 1 << 4 | 1 << 1);
        x.cycle(7);
        due.is("beat 7 is there no more", x.moves(), 0);
        due.is("listen", x.listen(), TilingBeats.NONE);
        due.is("yet heard", x.told(15), 1);
        x.cycle(8);
        due.is("it is there again", x.moves(), 1 << 7 | 1 << 4 | 1 << 1);
        x.over();
        due.is("the rhythm as it is now", x.moves(), 255 & ~(1 << 7 | 1 << 4 | 1 << 1));
        x.keep(0);
        due.is("keep leaves it", x.told(15), 1);
        x.goBack(0);
        due.is("goBack leaves it", x.told(15), 1);
        x.strike(0);
        x.undo(1);
        due.is("undo leaves it", x.told(15), 1);
        x.tell();
        due.is("a fault leaves it", x.told(15), 1);
        x.feed('x');
        x.tell();
        due.is("tell does not", x.told(15), 0);
    }
}
