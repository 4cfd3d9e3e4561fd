import java.util.function.Supplier;

/** The Terms ahead of the numbered ones: numbers, sets, refusals, and what changes nothing. */
final class TermEdges {
    private static final int NONE = -1, UNKNOWN = -1000000001, OUTSIDE = -1000000002,
            NOT = -1000000003, FULL = -1000000004;
    private static final int LEAST = Integer.MIN_VALUE, GREATEST = Integer.MAX_VALUE;

    private TermEdges() {
    }

    static void all(Edges e) {
        wordsWithoutCase(e);
        numbers(e);
        sets(e);
        refusalNumbers(e);
        refusalOrder(e);
        refusedChangesNothing(e);
        askedChangesNothing(e);
    }

    private static void wordsWithoutCase(Edges e) {
        e.namesNoCase("Words in capitals are told where they come first.");
        e.namesNoCase("Ahead of the calls `feed`, `tell`, `fault`, `told`, `tiling`, `who`, `gap`, "
                + "`shared`, `necklaces`, `kin`, `steady` the interface says: ---- the rhythm.");
        e.namesNoCase("Ahead of the calls `strike`, `even`, `turn`, `over`, `behind`, `stretch`, "
                + "`twice`, `cycle`, `drift`, `undo` the interface says: ---- deeds.");
        e.namesNoCase("Ahead of the calls `hear`, `moves`, `listen`, `forget` the interface says: "
                + "---- what is heard.");
        e.namesNoCase("Ahead of the calls `seed`, `keep`, `goBack` the interface says: ---- images.");
        e.namesNoCase("======== 1");
        e.namesNoCase("======== 2");
        e.namesNoCase("======== 3");
    }

    private static void numbers(Edges e) {
        e.says("Terms", "All numbers are whole; / cuts towards 0.");
        TilingBeats x = new TilingBeats();
        e.is("steady(29, 50): 1.8 is cut", x.steady(29, 50), 1);
        e.is("steady(30, 50): 0.5 is cut", x.steady(30, 50), 0);

        e.says("Terms", "What has a number has it from 0 on.");
        TilingBeats y = Due.told("xx.xx.");
        e.is("BEAT 0", y.strike(0), 0);
        e.is("BEAT -1", y.strike(-1), UNKNOWN);
        e.is("GAP 0", y.gap(0), 2);
        y.undo(1);
        e.is("TILINGS", y.told(3), 0);
        y.even(3);
        e.is("TILING 0", y.tiling(0, 0), 3);
        e.is("TILING -1", y.tiling(-1, 0), UNKNOWN);
        e.is("IMAGE 0", y.keep(0), 1);
        e.is("IMAGE -1", y.keep(-1), UNKNOWN);

        e.says("Terms", "BILLION is 1000000000.");
        e.is("steady(0, 100)", x.steady(0, 100), 1000000000);
    }

    private static void sets(Edges e) {
        e.says("Terms", "A SET is a whole number, bit k for k (of BEATS, if nothing else is told).");
        for (int n = 1; n <= 24; n++) {
            TilingBeats x = new TilingBeats();
            x.cycle(n);
            x.strike(n - 1);
            e.is("the last of " + n, x.told(2), 1 << n - 1);
            x.over();
            e.is("all but the last of " + n, x.told(2), (1 << n - 1) - 1);
            x.strike(n - 1);
            e.is("all of " + n, x.told(2), (1 << n) - 1);
        }
    }

    private static void refusalNumbers(Edges e) {
        e.says("Terms", "NONE is -1.");
        e.is("NONE", TilingBeats.NONE, NONE);
        e.is("gap(0) of none", new TilingBeats().gap(0), NONE);

        e.says("Terms", "They are far below all that is counted: -1000000001 and on.");
        e.is("UNKNOWN", TilingBeats.UNKNOWN, UNKNOWN);
        e.is("OUTSIDE", TilingBeats.OUTSIDE, OUTSIDE);
        e.is("NOT", TilingBeats.NOT, NOT);
        e.is("FULL", TilingBeats.FULL, FULL);
        TilingBeats x = new TilingBeats();
        e.is("strike(16)", x.strike(16), -1000000001);
        e.is("turn(24)", x.turn(24), -1000000002);
        e.is("undo(1)", x.undo(1), -1000000003);
        e.is("twice()", x.twice(), -1000000004);
    }

    private static void refusalOrder(Edges e) {
        e.says("Terms", "REFUSALS, of several the first in this order: UNKNOWN (a BEAT, TILING, IMAGE "
                + "that there is not), OUTSIDE (another number out of its bounds), NOT (not now, as told), FULL.");
        e.is("no TILING, no such what", some().tiling(2, 3), UNKNOWN);
        e.is("no TILING, no such what, both below", some().tiling(-1, -1), UNKNOWN);
        e.is("a TILING, no such what", some().tiling(1, 3), OUTSIDE);
        e.is("no BEAT, and full", full().hear(24, true), UNKNOWN);
        e.is("a BEAT, and full", full().hear(23, true), FULL);
        e.is("no letter, and full", full().feed(256), OUTSIDE);
        e.is("a letter, and full", full().feed(255), FULL);
        e.is("no IMAGE, so none was kept", new TilingBeats().goBack(2), UNKNOWN);
        e.is("no IMAGE, so none is like it", new TilingBeats().kin(2), UNKNOWN);
        e.is("an IMAGE, not kept", new TilingBeats().goBack(1), NOT);
        e.is("too many to undo, not so many", new TilingBeats().undo(31), OUTSIDE);
        e.is("30 to undo, not so many", new TilingBeats().undo(30), NOT);
        e.is("stretched too much, two become one", some().stretch(24), OUTSIDE);
        e.is("stretched by 0, two become one", some().stretch(0), OUTSIDE);
        e.is("stretched by 22, two become one", some().stretch(22), NOT);
    }

    // ---- what changes nothing

    private static void refusedChangesNothing(Edges e) {
        e.says("Terms", "What is refused changes nothing.");
        refusedAlways(e, "new", TilingBeats::new);
        refusedAlways(e, "one", TermEdges::one);
        refusedAlways(e, "some", TermEdges::some);
        refusedAlways(e, "full", TermEdges::full);
        e.changesNothing("new: twice()", TilingBeats::new, x -> x.twice(), FULL);
        e.changesNothing("new: undo(1)", TilingBeats::new, x -> x.undo(1), NOT);
        e.changesNothing("new: stretch(2)", TilingBeats::new, x -> x.stretch(2), NOT);
        e.changesNothing("new: goBack(0)", TilingBeats::new, x -> x.goBack(0), NOT);
        e.changesNothing("new: kin(0)", TilingBeats::new, x -> x.kin(0), NOT);
        e.changesNothing("some: undo(3)", TermEdges::some, x -> x.undo(3), NOT);
        e.changesNothing("some: stretch(2)", TermEdges::some, x -> x.stretch(2), NOT);
        e.changesNothing("some: goBack(1)", TermEdges::some, x -> x.goBack(1), NOT);
        e.changesNothing("some: kin(1)", TermEdges::some, x -> x.kin(1), NOT);
        e.changesNothing("some: tiling(0, 3)", TermEdges::some, x -> x.tiling(0, 3), OUTSIDE);
        e.changesNothing("some: tiling(0, -1)", TermEdges::some, x -> x.tiling(0, -1), OUTSIDE);
        e.changesNothing("full: feed(120)", TermEdges::full, x -> x.feed(120), FULL);
        e.changesNothing("full: twice()", TermEdges::full, x -> x.twice(), FULL);
        e.changesNothing("full: hear(0, true)", TermEdges::full, x -> x.hear(0, true), FULL);
        e.changesNothing("full: stretch(2)", TermEdges::full, x -> x.stretch(2), NOT);
        e.changesNothing("full: kin(0)", TermEdges::full, x -> x.kin(0), NOT);
    }

    private static void refusedAlways(Edges e, String name, Supplier<TilingBeats> made) {
        int n = made.get().told(0);
        int tilings = made.get().told(3);
        for (int bad : new int[] {LEAST, -1, GREATEST}) {
            refusedByEach(e, name, made, bad);
        }
        for (int bad : new int[] {n, n + 1, 24}) {
            e.changesNothing(name + ": strike(" + bad + ")", made, x -> x.strike(bad), UNKNOWN);
            e.changesNothing(name + ": hear(" + bad + ")", made, x -> x.hear(bad, true), UNKNOWN);
            e.changesNothing(name + ": who(0, " + bad + ")", made, x -> x.who(0, bad), UNKNOWN);
        }
        e.changesNothing(name + ": even(n + 1)", made, x -> x.even(n + 1), OUTSIDE);
        e.changesNothing(name + ": necklaces(n + 1, 0)", made, x -> x.necklaces(n + 1, 0), OUTSIDE);
        e.changesNothing(name + ": necklaces(n + 1, 1)", made, x -> x.necklaces(n + 1, 1), OUTSIDE);
        e.changesNothing(name + ": necklaces(0, 2)", made, x -> x.necklaces(0, 2), OUTSIDE);
        e.changesNothing(name + ": tiling(tilings, 0)", made, x -> x.tiling(tilings, 0), UNKNOWN);
        e.changesNothing(name + ": who(tilings, 0)", made, x -> x.who(tilings, 0), UNKNOWN);
        e.changesNothing(name + ": feed(256)", made, x -> x.feed(256), OUTSIDE);
        e.changesNothing(name + ": told(17)", made, x -> x.told(17), OUTSIDE);
        e.changesNothing(name + ": shared(24)", made, x -> x.shared(24), OUTSIDE);
        e.changesNothing(name + ": kin(2)", made, x -> x.kin(2), UNKNOWN);
        e.changesNothing(name + ": steady(61, 50)", made, x -> x.steady(61, 50), OUTSIDE);
        e.changesNothing(name + ": steady(1, 101)", made, x -> x.steady(1, 101), OUTSIDE);
        e.changesNothing(name + ": turn(24)", made, x -> x.turn(24), OUTSIDE);
        e.changesNothing(name + ": stretch(0)", made, x -> x.stretch(0), OUTSIDE);
        e.changesNothing(name + ": stretch(24)", made, x -> x.stretch(24), OUTSIDE);
        e.changesNothing(name + ": cycle(0)", made, x -> x.cycle(0), OUTSIDE);
        e.changesNothing(name + ": cycle(25)", made, x -> x.cycle(25), OUTSIDE);
        e.changesNothing(name + ": drift(0)", made, x -> x.drift(0), OUTSIDE);
        e.changesNothing(name + ": drift(31)", made, x -> x.drift(31), OUTSIDE);
        e.changesNothing(name + ": undo(0)", made, x -> x.undo(0), OUTSIDE);
        e.changesNothing(name + ": undo(31)", made, x -> x.undo(31), OUTSIDE);
        e.changesNothing(name + ": keep(2)", made, x -> x.keep(2), UNKNOWN);
        e.changesNothing(name + ": goBack(2)", made, x -> x.goBack(2), UNKNOWN);
    }

    private static void refusedByEach(Edges e, String name, Supplier<TilingBeats> made, int bad) {
        String a = "(" + bad + ")";
        e.changesNothing(name + ": feed" + a, made, x -> x.feed(bad), OUTSIDE);
        e.changesNothing(name + ": told" + a, made, x -> x.told(bad), OUTSIDE);
        e.changesNothing(name + ": tiling" + a, made, x -> x.tiling(bad, 0), UNKNOWN);
        e.changesNothing(name + ": who" + a, made, x -> x.who(bad, 0), UNKNOWN);
        e.changesNothing(name + ": who at" + a, made, x -> x.who(0, bad), UNKNOWN);
        e.changesNothing(name + ": gap" + a, made, x -> x.gap(bad), NONE);
        e.changesNothing(name + ": shared" + a, made, x -> x.shared(bad), OUTSIDE);
        e.changesNothing(name + ": necklaces" + a, made, x -> x.necklaces(bad, 0), OUTSIDE);
        e.changesNothing(name + ": necklaces of" + a, made, x -> x.necklaces(0, bad), OUTSIDE);
        e.changesNothing(name + ": kin" + a, made, x -> x.kin(bad), UNKNOWN);
        e.changesNothing(name + ": steady n" + a, made, x -> x.steady(bad, 50), OUTSIDE);
        e.changesNothing(name + ": steady q" + a, made, x -> x.steady(1, bad), OUTSIDE);
        e.changesNothing(name + ": strike" + a, made, x -> x.strike(bad), UNKNOWN);
        e.changesNothing(name + ": even" + a, made, x -> x.even(bad), OUTSIDE);
        e.changesNothing(name + ": turn" + a, made, x -> x.turn(bad), OUTSIDE);
        e.changesNothing(name + ": stretch" + a, made, x -> x.stretch(bad), OUTSIDE);
        e.changesNothing(name + ": cycle" + a, made, x -> x.cycle(bad), OUTSIDE);
        e.changesNothing(name + ": drift" + a, made, x -> x.drift(bad), OUTSIDE);
        e.changesNothing(name + ": undo" + a, made, x -> x.undo(bad), OUTSIDE);
        e.changesNothing(name + ": hear" + a, made, x -> x.hear(bad, false), UNKNOWN);
        e.changesNothing(name + ": keep" + a, made, x -> x.keep(bad), UNKNOWN);
        e.changesNothing(name + ": goBack" + a, made, x -> x.goBack(bad), UNKNOWN);
        if (bad < 0) {
            e.changesNothing(name + ": seed" + a, made, x -> x.seed(bad), OUTSIDE);
        }
    }

    private static void askedChangesNothing(Edges e) {
        e.says("Terms", "ASKED, nothing changes by it.");
        asked(e, "new", TilingBeats::new);
        asked(e, "one", TermEdges::one);
        asked(e, "some", TermEdges::some);
        asked(e, "full", TermEdges::full);
    }

    private static void asked(Edges e, String name, Supplier<TilingBeats> made) {
        for (int a = 0; a <= 16; a++) {
            TilingBeats x = made.get();
            x.told(a);
            e.same(name + ": told(" + a + ")", x, made.get());
        }
        TilingBeats x = made.get();
        x.fault();
        x.tiling(0, 0);
        x.tiling(0, 1);
        x.tiling(0, 2);
        x.who(0, 0);
        x.gap(0);
        x.shared(3);
        x.necklaces(1, 0);
        x.necklaces(1, 1);
        x.kin(0);
        x.kin(1);
        x.steady(60, 99);
        x.moves();
        x.listen();
        e.same(name + ": all that can be asked", x, made.get());
    }

    // ---- objects that were used

    /** One beat, with nothing else. */
    private static TilingBeats one() {
        return Due.told("x");
    }

    /** Eight beats with two tilings, two deeds, IMAGE 0, a text, two beats heard. */
    private static TilingBeats some() {
        TilingBeats x = Due.told("xx..xx..");
        x.keep(0);
        x.strike(1);
        x.strike(1);
        x.seed(9);
        x.hear(2, true);
        x.hear(5, false);
        Due.feed(x, "3x.");
        return x;
    }

    /** As much as there can be of each: 24 beats, 60 letters, 8 heard, 30 deeds, both IMAGES. */
    private static TilingBeats full() {
        TilingBeats x = Due.told("x..x");
        x.keep(0);
        x.cycle(24);
        x.even(7);
        x.seed(2147483647);
        x.keep(1);
        Due.feed(x, "x;");
        x.tell();
        x.drift(30);
        for (int beat = 16; beat < 24; beat++) {
            x.hear(beat, beat % 3 == 0);
        }
        Due.feed(x, " ".repeat(36) + "x..xx.xxx.x...x..xx.xxxx");
        return x;
    }
}
