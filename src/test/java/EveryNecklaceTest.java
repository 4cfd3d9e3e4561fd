import java.util.ArrayList;
import java.util.List;

/**
 * LATER (promise 5) of every necklace of 1 to 24 beats, which rise as the words that are least of
 * their turns are grown letter by letter; and that no rhythm has more tilings than are due.
 */
public final class EveryNecklaceTest {
    private static final Due due = new Due("EveryNecklaceTest");
    private static final int MOST_BEATS = 24;
    private static final int MOST_TILINGS = 2187;

    private final int n;
    private final int[] letters;
    /** The latest necklace that was grown, by how many are struck; NONE at first. */
    private final int[] latest;
    private final int[] count;
    private final List<Integer> oftenFilling = new ArrayList<>();
    private int wrong;

    private EveryNecklaceTest(int n) {
        this.n = n;
        letters = new int[n + 1];
        latest = new int[n + 1];
        java.util.Arrays.fill(latest, TilingBeats.NONE);
        count = new int[n + 1];
    }

    public static void main(String[] args) {
        for (int n = 1; n <= MOST_BEATS; n++) {
            new EveryNecklaceTest(n).all();
        }
        due.end();
    }

    private void all() {
        grow(1, 1);
        TilingBeats x = new TilingBeats();
        x.cycle(n);
        for (int k = 0; k <= n; k++) {
            see(latest[k], TilingBeats.NONE);
            due.is("necklaces of " + k + " of " + n, x.necklaces(k, 0), count[k]);
        }
        due.is("wrong answers of " + n + " beats", wrong, 0);
        boolean thirds = n == MOST_BEATS;
        due.is("rhythms of " + n + " beats with as many tilings as any", oftenFilling.size(), thirds ? 1 : 0);
        if (thirds && !oftenFilling.isEmpty()) {
            due.is("it strikes each eighth beat", oftenFilling.get(0), 1 << 16 | 1 << 8 | 1);
        }
    }

    /** The words of Fredricksen, Kessler and Maiorana: unit is their longest head of its own. */
    private void grow(int at, int unit) {
        if (at > n) {
            if (n % unit == 0) {
                grown();
            }
            return;
        }
        letters[at] = letters[at - unit];
        grow(at + 1, unit);
        if (letters[at - unit] == 0) {
            letters[at] = 1;
            grow(at + 1, at);
        }
    }

    private void grown() {
        int value = 0;
        for (int at = 1; at <= n; at++) {
            value = 2 * value + letters[at];
        }
        int k = Integer.bitCount(value);
        count[k]++;
        if (latest[k] != TilingBeats.NONE) {
            see(latest[k], value);
        }
        latest[k] = value;
    }

    private void see(int value, int later) {
        TilingBeats x = Due.struck(n, Integer.reverse(value) >>> 32 - n);
        if (x.told(6) != value || x.told(7) != 0 || x.told(8) != later) {
            wrong++;
        }
        if (x.told(3) >= MOST_TILINGS) {
            oftenFilling.add(value);
        }
    }
}
