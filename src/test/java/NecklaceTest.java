/** Promise 10, and of 5 what is read as a number: told(4) to told(8), told(11). */
public final class NecklaceTest {
    private static final Due due = new Due("NecklaceTest");
    /** Up to so many beats every rhythm is looked at. */
    private static final int ALL_OF = 13;

    public static void main(String[] args) {
        for (int n = 1; n <= ALL_OF; n++) {
            everyRhythmOf(n);
        }
        known();
        refusals();
        due.end();
    }

    private static void everyRhythmOf(int n) {
        int[] necklaces = new int[n + 1];
        int[] bracelets = new int[n + 1];
        int[] later = new int[n + 1];
        java.util.Arrays.fill(later, TilingBeats.NONE);
        int[] laterOf = new int[1 << n];
        for (int value = (1 << n) - 1; value >= 0; value--) {
            if (least(n, value) == value) {
                int k = Integer.bitCount(value);
                necklaces[k]++;
                if (least(n, reversed(n, value)) >= value) {
                    bracelets[k]++;
                }
                laterOf[value] = later[k];
                later[k] = value;
            }
        }
        for (int value = 0; value < 1 << n; value++) {
            rhythm(n, value, laterOf[least(n, value)]);
        }
        TilingBeats x = new TilingBeats();
        x.cycle(n);
        for (int k = 0; k <= n; k++) {
            due.is("necklaces " + n + " " + k, x.necklaces(k, 0), necklaces[k]);
            due.is("bracelets " + n + " " + k, x.necklaces(k, 1), bracelets[k]);
        }
    }

    private static void rhythm(int n, int value, int later) {
        TilingBeats x = Due.struck(n, reversed(n, value));
        String name = n + " beats, value " + value;
        due.is("value of " + name, x.told(5), value);
        due.is("necklace of " + name, x.told(6), least(n, value));
        due.is("turn of " + name, x.told(7), leastTurn(n, value));
        due.is("later of " + name, x.told(8), later);
        due.is("period of " + name, x.told(4), period(n, value));
    }

    private static void known() {
        TilingBeats x = new TilingBeats();
        x.cycle(24);
        due.is("necklaces(12, 0)", x.necklaces(12, 0), 112720);
        due.is("necklaces(12, 1)", x.necklaces(12, 1), 56822);
        due.is("necklaces(7, 0)", x.necklaces(7, 0), 14421);
        due.is("necklaces(7, 1)", x.necklaces(7, 1), 7293);
        due.is("necklaces(24, 0)", x.necklaces(24, 0), 1);
        int sum = 0;
        for (int k = 0; k <= 24; k++) {
            sum += x.necklaces(k, 0);
        }
        due.is("all necklaces of 24", sum, 699252);
        everyMiddleNecklaceOf24();
    }

    /** From the first necklace of 4 of 24 on, each later one: as many as there are. */
    private static void everyMiddleNecklaceOf24() {
        int value = 15;
        int count = 0;
        for (int i = 0; i < 1000 && value != TilingBeats.NONE; i++) {
            due.is("a necklace", least(24, value), value);
            int next = Due.struck(24, reversed(24, value)).told(8);
            due.holds("it is greater", next == TilingBeats.NONE || next > value);
            value = next;
            count++;
        }
        TilingBeats x = new TilingBeats();
        x.cycle(24);
        due.is("necklaces of 4 of 24", count, x.necklaces(4, 0));
    }

    private static void refusals() {
        TilingBeats x = Due.told("x.x.");
        due.is("necklaces(-1, 0)", x.necklaces(-1, 0), TilingBeats.OUTSIDE);
        due.is("necklaces(5, 0)", x.necklaces(5, 0), TilingBeats.OUTSIDE);
        due.is("necklaces(2, -1)", x.necklaces(2, -1), TilingBeats.OUTSIDE);
        due.is("necklaces(2, 2)", x.necklaces(2, 2), TilingBeats.OUTSIDE);
    }

    private static String bits(int n, int value) {
        String digits = Integer.toBinaryString(value);
        return "0".repeat(n - digits.length()) + digits;
    }

    private static int reversed(int n, int value) {
        return Integer.parseInt(new StringBuilder(bits(n, value)).reverse().toString(), 2);
    }

    private static int turned(int n, int value, int t) {
        String bits = bits(n, value);
        return Integer.parseInt(bits.substring(n - t) + bits.substring(0, n - t), 2);
    }

    private static int leastTurn(int n, int value) {
        int best = 0;
        for (int t = 1; t < n; t++) {
            if (turned(n, value, t) < turned(n, value, best)) {
                best = t;
            }
        }
        return best;
    }

    private static int least(int n, int value) {
        return turned(n, value, leastTurn(n, value));
    }

    private static int period(int n, int value) {
        int t = 1;
        while (turned(n, value, t) != value) {
            t++;
        }
        return t;
    }
}
