import com.sun.management.ThreadMXBean;
import java.lang.management.ManagementFactory;
import java.util.Random;

/**
 * What LANGUAGE.md asks of every call: none throws, for any arguments in any state, not even behind
 * the 512th, what is answered is a refusal or lies within what can be counted, and none makes an
 * object or an array.
 */
public final class AnyCallTest {
    private static final Due due = new Due("AnyCallTest");
    private static final int[] ARGUMENTS = {Integer.MIN_VALUE, Integer.MIN_VALUE + 1, -1000000001, -65536,
        -256, -31, -24, -2, -1, 0, 1, 2, 3, 4, 5, 6, 7, 8, 9, 10, 11, 12, 13, 14, 15, 16, 17, 18, 20, 22, 23,
        24, 25, 29, 30, 31, 32, 33, 46, 48, 50, 57, 59, 60, 61, 63, 64, 65, 99, 100, 101, 120, 127, 128, 255,
        256, 512, 2047, 2048, 2186, 2187, 2188, 65535, 65536, 16777215, 16777216, 1 << 30, Integer.MAX_VALUE};
    private static final int[] LETTERS = {'x', '.', ' ', '0', '1', '2', '9', 'y'};
    private static final int OBJECTS = 40;
    private static final int CALLS = 5000;
    private static final int KINDS = 28;
    private static final int MADE_CALLS = 20000;

    public static void main(String[] args) {
        for (int run = 0; run < OBJECTS; run++) {
            anyRun(run);
        }
        nothingIsMade();
        due.end();
    }

    private static void anyRun(int run) {
        Random random = new Random(run);
        TilingBeats x = new TilingBeats();
        for (int i = 0; i < CALLS; i++) {
            int kind = random.nextInt(KINDS);
            int a = drawn(random, kind);
            int b = ARGUMENTS[random.nextInt(ARGUMENTS.length)];
            String call = "run " + run + ", call " + i + ", kind " + kind + " of " + a + ", " + b;
            try {
                int answer = call(x, kind, a, b);
                due.holds(call + " answered " + answer, isAnAnswer(answer));
            } catch (RuntimeException thrown) {
                due.holds(call + " threw " + thrown, false);
            }
        }
    }

    /** Letters that tell a rhythm now and then; among arguments of every size those are too rare. */
    private static int drawn(Random random, int kind) {
        int[] among = kind == 0 && random.nextInt(8) != 0 ? LETTERS : ARGUMENTS;
        return among[random.nextInt(among.length)];
    }

    private static boolean isAnAnswer(int answer) {
        return answer >= -13 || answer <= TilingBeats.UNKNOWN && answer >= TilingBeats.FULL;
    }

    private static int call(TilingBeats x, int kind, int a, int b) {
        switch (kind) {
            case 0: return x.feed(a);
            case 1: return x.tell();
            case 2: return x.fault();
            case 3: return x.told(a);
            case 4: return x.tiling(a, b);
            case 5: return x.who(a, b);
            case 6: return x.gap(a);
            case 7: return x.shared(a);
            case 8: return x.necklaces(a, b);
            case 9: return x.kin(a);
            case 10: return x.steady(a, b);
            case 11: return x.strike(a);
            case 12: return x.even(a);
            case 13: return x.turn(a);
            case 14: return x.over();
            case 15: return x.behind();
            case 16: return x.stretch(a);
            case 17: return x.twice();
            case 18: return x.cycle(a);
            case 19: return x.drift(a);
            case 20: return x.undo(a);
            case 21: return x.hear(a, b > 0);
            case 22: return x.moves();
            case 23: return x.listen();
            case 24: return x.forget();
            case 25: return x.seed(a);
            case 26: return x.keep(a);
            default: return x.goBack(a);
        }
    }

    /** All calls of a run share one room: only the constructor takes of it. */
    private static void nothingIsMade() {
        int[][] drawn = new int[MADE_CALLS][3];
        Random random = new Random(1);
        for (int[] call : drawn) {
            call[0] = random.nextInt(KINDS);
            call[1] = drawn(random, call[0]);
            call[2] = ARGUMENTS[random.nextInt(ARGUMENTS.length)];
        }
        ThreadMXBean threads = (ThreadMXBean) ManagementFactory.getThreadMXBean();
        long self = Thread.currentThread().getId();
        allOf(drawn, Due.told("x7.x7.x7."));
        TilingBeats x = Due.told("x7.x7.x7.");
        long before = threads.getThreadAllocatedBytes(self);
        allOf(drawn, x);
        long made = threads.getThreadAllocatedBytes(self) - before;
        // The asking itself may take some bytes; an object or an array takes sixteen at least.
        due.holds(made + " bytes made by " + MADE_CALLS + " calls", made < MADE_CALLS / 10);
    }

    private static void allOf(int[][] drawn, TilingBeats x) {
        for (int[] call : drawn) {
            call(x, call[0], call[1], call[2]);
        }
    }
}
