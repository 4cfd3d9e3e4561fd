/** Promises 13 to 22, and the Terms MOVED to CYCLE, BY DRAWS, UNDONE. */
final class DeedEdges {
    private static final int UNKNOWN = -1000000001, OUTSIDE = -1000000002, NOT = -1000000003,
            FULL = -1000000004;
    private static final int LEAST = Integer.MIN_VALUE, GREATEST = Integer.MAX_VALUE;
    private static final int ALL = 16777215;

    private DeedEdges() {
    }

    static void all(Edges e) {
        moved(e);
        strike(e);
        even(e);
        turn(e);
        over(e);
        behind(e);
        stretch(e);
        twice(e);
        cycle(e);
        theSeed(e);
        kindsOfDraws(e);
        drift(e);
        whatIsADeed(e);
        whatIsNoDeed(e);
        thirtyAreKept(e);
        sinceTheImage(e);
        seedStays(e);
        undo(e);
    }

    private static void moved(Edges e) {
        e.says("Terms", "MOVED by t: all STRUCK BEATS t later, left over by N.");
        for (int n = 1; n <= 24; n++) {
            for (int t = 0; t <= 23; t++) {
                TilingBeats x = new TilingBeats();
                x.cycle(n);
                x.strike(n - 1);
                e.is("the last of " + n + " by " + t, x.turn(t), 1 << (n - 1 + t) % n);
                x.over();
                e.is("the others of " + n, x.turn(1), (1 << n) - 1 ^ 1 << (n + t) % n);
            }
        }
    }

    private static void strike(Edges e) {
        e.says("Terms", "STRIKE: a BEAT is STRUCK, or no more.");
        TilingBeats x = Due.told("24.");
        e.is("BEAT 23", x.strike(23), 1);
        e.is("it is STRUCK", x.told(2), 1 << 23);
        e.is("BEAT 23 again", x.strike(23), 0);
        e.is("no more", x.told(2), 0);
        TilingBeats one = Due.told("x");
        e.is("the only BEAT", one.strike(0), 0);
        e.is("and again", one.strike(0), 1);

        e.says("Promise 13", "STRIKE: 1 it is STRUCK then, 0 not.");
        e.is("strike(0)", x.strike(0), 1);
        e.is("strike(0) again", x.strike(0), 0);

        e.says("Promise 13", "UNKNOWN.");
        for (int beat : new int[] {LEAST, -1, 24, GREATEST}) {
            e.is("strike(" + beat + ") of 24", x.strike(beat), UNKNOWN);
        }
        e.is("strike(1) of one", one.strike(1), UNKNOWN);
        e.is("strike(16) of 16", new TilingBeats().strike(16), UNKNOWN);
        e.is("strike(15) of 16", new TilingBeats().strike(15), 1);
    }

    private static void even(Edges e) {
        e.says("Terms", "EVEN of k: BEAT i is STRUCK, if i times k, left over by N, is less than k.");
        for (int n = 1; n <= 24; n++) {
            TilingBeats x = new TilingBeats();
            x.cycle(n);
            e.is("all of " + n, x.even(n), (1 << n) - 1);
            e.is("none of " + n, x.even(0), 0);
            e.is("one of " + n, x.even(1), 1);
            int butOne = n == 1 ? 0 : (1 << n) - 1 ^ 2;
            e.is("all but one of " + n, x.even(n - 1), n == 2 ? 1 : butOne);
        }
        TilingBeats x = Due.told("8x");
        e.is("three of eight", x.even(3), 1 | 1 << 3 | 1 << 6);
        e.is("five of eight", x.even(5), 1 | 1 << 2 | 1 << 4 | 1 << 5 | 1 << 7);
        e.is("what was STRUCK does not matter", x.even(3), 73);

        e.says("Promise 14", "EVEN of k (0 .. N): THE RHYTHM.");
        e.is("even(8)", x.even(8), 255);
        e.is("even(0)", x.even(0), 0);
        e.is("told(2)", x.told(2), 0);
        e.says("Promise 14", "OUTSIDE.");
        for (int k : new int[] {LEAST, -1, 9, 24, GREATEST}) {
            e.is("even(" + k + ") of 8", x.even(k), OUTSIDE);
        }
        e.is("even(25) of 24", Due.told("24.").even(25), OUTSIDE);
        e.is("even(24) of 24", Due.told("24.").even(24), ALL);
    }

    private static void turn(Edges e) {
        e.says("Terms", "TURNED by t: MOVED.");
        e.is("by 0", Due.told("x..x.").turn(0), 9);
        e.is("by N", Due.told("x..x.").turn(5), 9);
        e.is("round the end", Due.told("x..x.").turn(2), 1 << 2 | 1);

        e.says("Promise 15", "TURNED (t 0 .. 23): THE RHYTHM.");
        TilingBeats x = Due.told("23.x");
        e.is("turn(0)", x.turn(0), 1 << 23);
        e.is("turn(23)", x.turn(23), 1 << 22);
        e.is("told(2)", x.told(2), 1 << 22);
        e.is("turn(23) of one", Due.told("x").turn(23), 1);
        e.is("turn(23) of seven", Due.told("x6.").turn(23), 4);
        e.says("Promise 15", "OUTSIDE.");
        for (int t : new int[] {LEAST, -23, -1, 24, 25, GREATEST}) {
            e.is("turn(" + t + ")", x.turn(t), OUTSIDE);
        }
    }

    private static void over(Edges e) {
        e.says("Terms", "OVER: STRUCK ones are not, others are.");
        e.is("some", Due.told("xx.").over(), 4);
        e.is("one", Due.told("x").over(), 0);
        e.says("Promise 16", "OVER: THE RHYTHM.");
        TilingBeats x = Due.told("24.");
        e.is("none of 24", x.over(), ALL);
        e.is("all of 24", x.over(), 0);
        e.is("told(2)", x.told(2), 0);
        e.is("BEATS that are not there stay so", Due.told("5.").over(), 31);
    }

    private static void behind(Edges e) {
        e.says("Terms", "BEHIND: BEAT i becomes BEAT N less i (left over by N).");
        for (int n = 1; n <= 24; n++) {
            TilingBeats x = new TilingBeats();
            x.cycle(n);
            x.strike(0);
            e.is("BEAT 0 of " + n + " stays", x.behind(), 1);
            x.strike(0);
            x.strike(n - 1);
            e.is("the last of " + n, x.behind(), n == 1 ? 1 : 2);
            x.even(0);
            x.strike(n / 2);
            e.is("the middle of " + n, x.behind(), 1 << (n - n / 2) % n);
        }
        e.says("Promise 17", "BEHIND: THE RHYTHM.");
        TilingBeats x = Due.told("xx.x....");
        e.is("behind()", x.behind(), 1 | 1 << 7 | 1 << 5);
        e.is("told(2)", x.told(2), 161);
        e.is("behind() again", x.behind(), 11);
    }

    private static void stretch(Edges e) {
        e.says("Terms", "STRETCHED by m: BEAT i becomes BEAT i times m (left over by N), if no two become one.");
        e.is("by 1", Due.told("xx..x").stretch(1), 19);
        e.is("by 2 of five", Due.told(".xx..").stretch(2), 1 << 2 | 1 << 4);
        e.is("round the end", Due.told("...x.").stretch(2), 2);
        e.is("by N and 1", Due.told("xx..x").stretch(6), 19);
        e.is("by 23 of 24: from behind", Due.told(".x22.").stretch(23), 1 << 23);

        e.says("Promise 18", "STRETCHED (m 1 .. 23): THE RHYTHM.");
        for (int m = 1; m <= 23; m++) {
            e.is("stretch(" + m + ") of one", Due.told("x").stretch(m), 1);
            boolean apart = m % 2 != 0 && m % 3 != 0;
            e.is("stretch(" + m + ") of 24", Due.told(".x22.").stretch(m), apart ? 1 << m : NOT);
            boolean by23 = m != 23;
            e.is("stretch(" + m + ") of 23", Due.told(".x21.").stretch(m), by23 ? 1 << m : NOT);
        }
        e.says("Promise 18", "OUTSIDE, NOT: two BEATS of THE CYCLE (STRUCK or not) would become one.");
        TilingBeats x = Due.told("x7.");
        for (int m : new int[] {LEAST, -1, 0, 24, 25, GREATEST}) {
            e.is("stretch(" + m + ")", x.stretch(m), OUTSIDE);
        }
        e.is("one STRUCK", x.stretch(2), NOT);
        e.is("by N", x.stretch(8), NOT);
        e.is("none STRUCK", Due.told("8.").stretch(2), NOT);
        e.is("all STRUCK", Due.told("8x").stretch(4), NOT);
        e.is("two", Due.told("x.").stretch(2), NOT);
    }

    private static void twice(Edges e) {
        e.says("Terms", "TWICE: N is twice as much, all comes twice.");
        TilingBeats x = Due.told("x..");
        e.is("N", x.twice(), 6);
        e.is("the first half and the second", x.told(2), 1 | 1 << 3);
        e.says("Promise 19", "TWICE: N.");
        e.is("of one", Due.told("x").twice(), 2);
        TilingBeats half = Due.told("11.x");
        e.is("of 12", half.twice(), 24);
        e.is("told(0)", half.told(0), 24);
        e.is("told(2)", half.told(2), 1 << 11 | 1 << 23);
        e.says("Promise 19", "FULL: it would be above 24.");
        e.is("of 13", Due.told("13.").twice(), FULL);
        e.is("of 16", new TilingBeats().twice(), FULL);
        e.is("of 24", half.twice(), FULL);
        e.is("N stays", half.told(0), 24);
    }

    private static void cycle(Edges e) {
        e.says("Terms", "CYCLE: N is another, BEATS from there on are gone (new ones are not STRUCK).");
        TilingBeats x = Due.told("24x");
        e.is("cycle(5)", x.cycle(5), 5);
        e.is("THE RHYTHM", x.told(2), 31);
        e.is("cycle(24)", x.cycle(24), 5);
        e.is("what was gone is not STRUCK again", x.told(2), 31);
        e.is("the same N", x.cycle(24), 5);
        e.is("THE RHYTHM", x.told(2), 31);
        x.over();
        x.cycle(5);
        e.is("all that was STRUCK is gone", x.told(1), 0);

        e.says("Promise 20", "CYCLE (1 .. 24): how many are STRUCK then.");
        for (int n = 1; n <= 24; n++) {
            TilingBeats y = Due.told("12x");
            e.is("cycle(" + n + ") of 12", y.cycle(n), Math.min(n, 12));
            e.is("told(0)", y.told(0), n);
        }
        e.says("Promise 20", "OUTSIDE.");
        for (int n : new int[] {LEAST, -1, 0, 25, GREATEST}) {
            e.is("cycle(" + n + ")", x.cycle(n), OUTSIDE);
        }
    }

    // ---- by draws

    private static void theSeed(Edges e) {
        e.says("Terms", "BY DRAWS: THE SEED (0 at first: each DRAW it becomes it times 1103515245 and 12345, "
                + "left over by 2 to the 31; the DRAW of n is it / 65536, left over by n): n times:");
        e.is("0 at first", new TilingBeats().seed(1), 0);
        e.is("two DRAWS from 0", seedAfter(0, 1), 1406932606);
        e.is("two DRAWS from the greatest", seedAfter(2147483647, 1), 288979989);
        e.is("one DRAW from 1", seedAfter(1, 1), 1103527590);
        TilingBeats one = Due.told(".");
        e.is("a DRAW of 1 is 0", one.drift(1), 1);
        TilingBeats x = new TilingBeats();
        TilingBeats y = new TilingBeats();
        int rhythm = 0;
        for (int i = 0; i < 7; i++) {
            rhythm = x.drift(1);
        }
        e.is("seven times are as seven of one", y.drift(7), rhythm);
    }

    private static int seedAfter(int seed, int times) {
        TilingBeats x = new TilingBeats();
        x.seed(seed);
        x.drift(times);
        return x.seed(0);
    }

    private static void kindsOfDraws(Edges e) {
        e.says("Terms", "a DRAW of 8: on 0 to 4 a DRAW of N: STRIKE that;");
        e.is("on 0", drifted(0), 9 ^ 1 << 12);
        e.is("on 1", drifted(4), 9 ^ 1 << 6);
        e.is("on 2", drifted(8), 9 ^ 1);
        e.is("on 3", drifted(3), 9 ^ 1 << 3);
        e.is("on 4", drifted(2), 9 ^ 1 << 1);
        e.says("Terms", "on 5 a DRAW of N: TURNED by that;");
        e.is("on 5, by 8", drifted(11), 9 << 8);
        e.is("two DRAWS", seedAfter(11, 1), 819509505);
        e.says("Terms", "on 6 OVER, on 7 BEHIND.");
        e.is("on 6", drifted(1), 65535 ^ 9);
        e.is("one DRAW", seedAfter(1, 1), 1103527590);
        e.is("on 7", drifted(5), 1 | 1 << 13);
        e.is("one DRAW", seedAfter(5, 1), 1222621274);
    }

    /** From 16 BEATS with 0 and 3 STRUCK. */
    private static int drifted(int seed) {
        TilingBeats x = Due.told("x..x12.");
        x.seed(seed);
        return x.drift(1);
    }

    private static void drift(Edges e) {
        e.says("Promise 21", "n times BY DRAWS (1 .. 30): THE RHYTHM.");
        for (int n : new int[] {1, 2, 29, 30}) {
            TilingBeats x = Due.told("24.");
            Model like = new Model();
            like.cycle(24);
            int rhythm = x.drift(n);
            e.is("drift(" + n + ")", rhythm, like.drift(n));
            e.is("told(2)", x.told(2), rhythm);
            e.is("N stays", x.told(0), 24);
        }
        e.says("Promise 21", "OUTSIDE.");
        TilingBeats x = new TilingBeats();
        for (int n : new int[] {LEAST, -1, 0, 31, 32, GREATEST}) {
            e.is("drift(" + n + ")", x.drift(n), OUTSIDE);
        }
        e.is("no DRAW was made", x.seed(0), 0);
    }

    // ---- undone

    private static void whatIsADeed(Edges e) {
        e.says("Terms", "UNDONE: the latest deeds (tell(), strike(), even(), turn(), over(), behind(), "
                + "stretch(), twice(), cycle(), each of the times BY DRAWS)");
        undoneIs(e, "tell()", x -> Due.feed(x, "x."), x -> x.tell());
        undoneIs(e, "strike()", x -> { }, x -> x.strike(2));
        undoneIs(e, "even()", x -> { }, x -> x.even(4));
        undoneIs(e, "turn()", x -> { }, x -> x.turn(3));
        undoneIs(e, "turn(0)", x -> { }, x -> x.turn(0));
        undoneIs(e, "over()", x -> { }, x -> x.over());
        undoneIs(e, "behind()", x -> { }, x -> x.behind());
        undoneIs(e, "stretch()", x -> { }, x -> x.stretch(3));
        undoneIs(e, "stretch(1)", x -> { }, x -> x.stretch(1));
        undoneIs(e, "twice()", x -> { }, x -> x.twice());
        undoneIs(e, "cycle() of fewer", x -> { }, x -> x.cycle(3));
        undoneIs(e, "cycle() of more", x -> { }, x -> x.cycle(24));
        undoneIs(e, "cycle() of as many", x -> { }, x -> x.cycle(8));
        undoneIs(e, "drift(1)", x -> { }, x -> x.drift(1));
        for (int n = 1; n <= 30; n++) {
            TilingBeats x = new TilingBeats();
            x.drift(n);
            e.is("deeds of drift(" + n + ")", x.told(16), n);
        }
        TilingBeats x = new TilingBeats();
        TilingBeats y = new TilingBeats();
        x.drift(5);
        x.undo(2);
        e.is("part of the times", x.told(2), y.drift(3));

        e.says("Terms", "N and THE RHYTHM are as ahead of them;");
        TilingBeats z = Due.told("xx..xx..");
        z.cycle(5);
        z.strike(2);
        z.twice();
        e.is("N", z.undo(3), 8);
        e.is("THE RHYTHM", z.told(2), 51);
    }

    private static void undoneIs(Edges e, String name, java.util.function.Consumer<TilingBeats> ahead,
            java.util.function.ToIntFunction<TilingBeats> deed) {
        TilingBeats x = Due.told("xx..xx..");
        x.keep(0);
        ahead.accept(x);
        e.holds(name + " is done", deed.applyAsInt(x) >= 0);
        e.is("deeds of " + name, x.told(16), 1);
        e.is("undo of " + name, x.undo(1), 8);
        e.is("THE RHYTHM ahead of " + name, x.told(2), 51);
        e.is("no deed is left of " + name, x.told(16), 0);
    }

    private static void whatIsNoDeed(Edges e) {
        e.says("Terms", "UNDONE: the latest deeds (tell(), strike(), even(), turn(), over(), behind(), "
                + "stretch(), twice(), cycle(), each of the times BY DRAWS)");
        TilingBeats x = new TilingBeats();
        x.feed(';');
        e.is("tell() with a FAULT", x.tell(), -11);
        x.hear(0, true);
        x.forget();
        x.seed(5);
        x.feed('x');
        x.strike(16);
        x.twice();
        x.undo(1);
        e.is("no deed", x.told(16), 0);
        x.strike(0);
        x.strike(1);
        x.undo(1);
        e.is("undo() is none", x.told(16), 1);
    }

    private static void thirtyAreKept(Edges e) {
        e.says("Terms", "(30 at most are kept):");
        for (int deeds : new int[] {29, 30, 31, 32, 60, 61, 95}) {
            TilingBeats x = Due.told("x23.");
            x.keep(0);
            for (int i = 0; i < deeds; i++) {
                x.turn(1);
            }
            int kept = Math.min(deeds, 30);
            e.is("of " + deeds, x.told(16), kept);
            e.is("all of them", x.undo(kept), 24);
            e.is("THE RHYTHM ahead of them", x.told(2), 1 << (deeds - kept) % 24);
            e.is("no more", x.undo(1), NOT);
        }
        TilingBeats x = Due.told("x23.");
        x.keep(0);
        x.turn(5);
        x.drift(30);
        e.is("30 times crowd out the turn", x.told(16), 30);
        x.undo(30);
        e.is("it stays", x.told(2), 1 << 5);
    }

    private static void sinceTheImage(Edges e) {
        e.says("Terms", "since the IMAGE");
        TilingBeats x = Due.told("x.x.");
        x.strike(1);
        x.keep(1);
        e.is("after keep()", x.told(16), 0);
        e.is("undo(1)", x.undo(1), NOT);
        x.strike(3);
        x.goBack(1);
        e.is("after goBack()", x.told(16), 0);
        e.is("undo(1)", x.undo(1), NOT);
        x.strike(3);
        e.is("after one deed more", x.undo(1), 4);
        e.is("THE RHYTHM of the IMAGE", x.told(2), 7);
        e.is("undo(1)", x.undo(1), NOT);
    }

    private static void seedStays(Edges e) {
        e.says("Terms", "THE SEED stays.");
        TilingBeats x = new TilingBeats();
        x.drift(1);
        x.undo(1);
        e.is("THE SEED", x.seed(7), 1406932606);
        x.strike(0);
        x.undo(1);
        e.is("a SEED that was put", x.seed(0), 7);
    }

    private static void undo(Edges e) {
        e.says("Promise 22", "The n latest (1 .. 30) are undone: N.");
        TilingBeats x = new TilingBeats();
        for (int n = 1; n <= 24; n++) {
            x.cycle(n);
        }
        e.is("undo(1)", x.undo(1), 23);
        e.is("undo(2)", x.undo(2), 21);
        e.is("undo(20)", x.undo(20), 1);
        e.is("to undo", x.told(16), 1);
        e.is("the last one", x.undo(1), 16);
        x.drift(30);
        e.is("undo(30)", x.undo(30), 16);
        e.is("THE RHYTHM", x.told(2), 0);

        e.says("Promise 22", "OUTSIDE, NOT: not so many.");
        x.drift(30);
        for (int n : new int[] {LEAST, -1, 0, 31, GREATEST}) {
            e.is("undo(" + n + ")", x.undo(n), OUTSIDE);
        }
        e.is("to undo", x.told(16), 30);
        x.undo(1);
        e.is("undo(30) of 29", x.undo(30), NOT);
        e.is("nothing was undone", x.told(16), 29);
        e.is("undo(29) of 29", x.undo(29), 16);
        e.is("undo(1) of none", x.undo(1), NOT);
    }
}
