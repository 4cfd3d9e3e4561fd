/** Promises 5, 8, 9, 12: told, gap, shared, steady. */
public final class RhythmTest {
    private static final Due due = new Due("RhythmTest");

    public static void main(String[] args) {
        told();
        gaps();
        shared();
        steady();
        due.end();
    }

    private static void told() {
        TilingBeats x = Due.told("x..x..x.");
        int[] answers = {8, 3, 73, 0, 8, 146, 37, 7, -1, 2, 3, 1, 1, 1, 0, 0, 1};
        for (int what = 0; what < answers.length; what++) {
            due.is("tresillo told(" + what + ")", x.told(what), answers[what]);
        }
        x.feed('x');
        x.hear(0, true);
        x.hear(1, false);
        x.turn(0);
        due.is("letters", x.told(14), 1);
        due.is("heard", x.told(15), 2);
        due.is("to undo", x.told(16), 2);
        due.is("told(-1)", x.told(-1), TilingBeats.OUTSIDE);
        due.is("told(17)", x.told(17), TilingBeats.OUTSIDE);
        due.is("told(least)", x.told(Integer.MIN_VALUE), TilingBeats.OUTSIDE);
        due.is("told(greatest)", x.told(Integer.MAX_VALUE), TilingBeats.OUTSIDE);
        due.is("not most even", Due.told("xxx.....").told(11), 0);
        due.is("most even, turned", Due.told("..x..x.x").told(11), 1);
        due.is("most even, all", Due.told("xxx").told(11), 1);
    }

    private static void gaps() {
        TilingBeats x = Due.told(".x..xx..");
        due.is("gap(0)", x.gap(0), 3);
        due.is("gap(1)", x.gap(1), 1);
        due.is("gap(2)", x.gap(2), 4);
        due.is("gap(3)", x.gap(3), TilingBeats.NONE);
        due.is("gap(-1)", x.gap(-1), TilingBeats.NONE);
        due.is("gap(greatest)", x.gap(Integer.MAX_VALUE), TilingBeats.NONE);
        due.is("gap(least)", x.gap(Integer.MIN_VALUE), TilingBeats.NONE);
        due.is("least gap", x.told(9), 1);
        due.is("greatest gap", x.told(10), 4);
        TilingBeats one = Due.told("...x...");
        due.is("only one: gap(0)", one.gap(0), 7);
        due.is("only one: gap(1)", one.gap(1), TilingBeats.NONE);
        due.is("only one: least", one.told(9), 7);
        due.is("only one: greatest", one.told(10), 7);
        TilingBeats none = Due.told("....");
        due.is("none: gap(0)", none.gap(0), TilingBeats.NONE);
        due.is("none: least", none.told(9), TilingBeats.NONE);
        due.is("none: greatest", none.told(10), TilingBeats.NONE);
    }

    private static void shared() {
        TilingBeats x = Due.told("xx..xx..");
        int[] answers = {4, 2, 0, 2};
        for (int t = 0; t <= 23; t++) {
            due.is("shared(" + t + ")", x.shared(t), answers[t % 4]);
        }
        due.is("shared(-1)", x.shared(-1), TilingBeats.OUTSIDE);
        due.is("shared(24)", x.shared(24), TilingBeats.OUTSIDE);
        due.is("one beat, moved", Due.told("x").shared(23), 1);
    }

    private static void steady() {
        TilingBeats x = new TilingBeats();
        due.is("steady(0, 0)", x.steady(0, 0), 1000000000);
        due.is("steady(1, 0)", x.steady(1, 0), 0);
        due.is("steady(60, 100)", x.steady(60, 100), 1000000000);
        due.is("steady(2, 90)", x.steady(2, 90), 810000000);
        due.is("steady(60, 99), cut each time", x.steady(60, 99), 547156620);
        due.is("steady(5, 1)", x.steady(5, 1), 0);
        due.is("steady(4, 1)", x.steady(4, 1), 10);
        due.is("steady(6, 33), cut each time", x.steady(6, 33), 1291467);
        due.is("steady(-1, 50)", x.steady(-1, 50), TilingBeats.OUTSIDE);
        due.is("steady(61, 50)", x.steady(61, 50), TilingBeats.OUTSIDE);
        due.is("steady(5, -1)", x.steady(5, -1), TilingBeats.OUTSIDE);
        due.is("steady(5, 101)", x.steady(5, 101), TilingBeats.OUTSIDE);
    }
}
