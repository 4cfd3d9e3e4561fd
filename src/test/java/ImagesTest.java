/** Promises 11, 27, 28, 29: kin, seed, keep, goBack. */
public final class ImagesTest {
    private static final Due due = new Due("ImagesTest");

    public static void main(String[] args) {
        seed();
        keepAndGoBack();
        kin();
        due.end();
    }

    private static void seed() {
        TilingBeats x = new TilingBeats();
        due.is("seed(7)", x.seed(7), 0);
        due.is("seed(2147483647)", x.seed(2147483647), 7);
        due.is("seed(-1)", x.seed(-1), TilingBeats.OUTSIDE);
        due.is("seed(least)", x.seed(Integer.MIN_VALUE), TilingBeats.OUTSIDE);
        due.is("seed(0)", x.seed(0), 2147483647);
        due.is("no deed", x.told(16), 0);
    }

    private static void keepAndGoBack() {
        TilingBeats x = Due.told("xx.x.");
        x.seed(99);
        due.is("keep(-1)", x.keep(-1), TilingBeats.UNKNOWN);
        due.is("keep(2)", x.keep(2), TilingBeats.UNKNOWN);
        due.is("a refusal leaves the deeds", x.told(16), 1);
        due.is("goBack(1)", x.goBack(1), TilingBeats.NOT);
        due.is("goBack(2)", x.goBack(2), TilingBeats.UNKNOWN);
        due.is("goBack(-1)", x.goBack(-1), TilingBeats.UNKNOWN);
        due.is("a refusal leaves the deeds", x.told(16), 1);
        due.is("keep(0)", x.keep(0), 1);
        due.is("nothing can be undone", x.told(16), 0);
        due.is("undo(1)", x.undo(1), TilingBeats.NOT);
        x.cycle(12);
        x.drift(5);
        x.feed('x');
        due.is("keep(1)", x.keep(1), 1);
        int rhythm = x.told(2);
        int seed = x.seed(0);
        x.strike(0);
        due.is("goBack(0)", x.goBack(0), 1);
        due.is("nothing can be undone", x.told(16), 0);
        due.is("beats", x.told(0), 5);
        due.is("rhythm", x.told(2), 11);
        due.is("seed", x.seed(3), 99);
        due.is("the text stays", x.told(14), 1);
        due.is("goBack(1)", x.goBack(1), 1);
        due.is("beats", x.told(0), 12);
        due.is("rhythm", x.told(2), rhythm);
        due.is("seed", x.seed(0), seed);
        x.tell();
        x.tell();
        due.is("fault", x.fault(), 0);
        x.goBack(1);
        due.is("the fault stays", x.fault(), 0);
        due.is("goBack twice", x.goBack(0), 1);
    }

    private static void kin() {
        TilingBeats x = Due.told("xx.x....");
        due.is("kin(0)", x.kin(0), TilingBeats.NOT);
        due.is("kin(2)", x.kin(2), TilingBeats.UNKNOWN);
        due.is("kin(-1)", x.kin(-1), TilingBeats.UNKNOWN);
        x.keep(0);
        due.is("kin(1)", x.kin(1), TilingBeats.NOT);
        due.is("itself", x.kin(0), 1);
        x.turn(3);
        due.is("turned", x.kin(0), 1);
        x.behind();
        due.is("behind", x.kin(0), 2);
        x.over();
        due.is("over, behind", x.kin(0), 8);
        x.behind();
        due.is("over", x.kin(0), 4);
        x.strike(0);
        due.is("no kin", x.kin(0), 0);
        x.cycle(9);
        due.is("not as many beats", x.kin(0), TilingBeats.NOT);
        TilingBeats all = Due.told("xx..xx..");
        all.keep(1);
        due.is("in all four ways", all.kin(1), 15);
    }
}
