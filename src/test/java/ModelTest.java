import java.util.Random;

/** Every promise, in long runs of calls that are drawn, against the plain model. */
public final class ModelTest {
    private static final int RUNS = 1200;
    /** An object is used for 512 calls; the last kind of call drawn may take some twenty. */
    private static final int CALLS = 480;
    private static final int[] ODD = {Integer.MIN_VALUE, -1000000001, -2, -1, 0, 1, 2, 7, 8, 12, 16, 17,
        22, 23, 24, 25, 30, 31, 32, 60, 61, 100, 101, 255, 256, 2186, 2187, 65536, Integer.MAX_VALUE};
    private static final String SIGNS = "xxxx....  123456789012xx..;y";
    private static final Due due = new Due("ModelTest");

    public static void main(String[] args) {
        for (int run = 0; run < RUNS; run++) {
            oneRun(run);
        }
        due.end();
    }

    private static void oneRun(int run) {
        Random random = new Random(run);
        TilingBeats x = new TilingBeats();
        Model like = new Model();
        // Some runs stay among few beats, where rhythms fill and meet their kin more often.
        int most = run % 2 == 0 ? 24 : 2 + run % 13;
        int before = due.asked();
        while (due.asked() - before < CALLS) {
            if (like.told(0) > most) {
                int n = 1 + random.nextInt(most);
                due.is("run " + run + ": cycle(" + n + ")", x.cycle(n), like.cycle(n));
            } else {
                oneCall(run, random, x, like);
            }
        }
    }

    private static int near(Random random, int most) {
        return random.nextInt(25) == 0 ? ODD[random.nextInt(ODD.length)] : random.nextInt(most + 1);
    }

    private static void oneCall(int run, Random random, TilingBeats x, Model like) {
        int beats = like.told(0);
        int kind = random.nextInt(34);
        int a = near(random, 23);
        int b = near(random, 2);
        String name = "run " + run + ", " + beats + " beats, rhythm " + like.told(2) + ", call " + kind;
        switch (kind) {
            case 0: feedText(run, random, x, like); break;
            case 1: due.is(name, x.tell(), like.tell()); break;
            case 2: due.is(name, x.fault(), like.fault()); break;
            case 3: case 4: case 5: case 6: everyTold(name, x, like); break;
            case 7: case 8: everyTiling(name, random, x, like); break;
            case 9: due.is(name, x.gap(a), like.gap(a)); break;
            case 10: due.is(name, x.shared(a), like.shared(a)); break;
            case 11: due.is(name, x.necklaces(a, b), like.necklaces(a, b)); break;
            case 12: due.is(name, x.kin(b), like.kin(b)); break;
            case 13: steady(name, random, x, like); break;
            case 14: case 15: due.is(name, x.strike(a), like.strike(a)); break;
            case 16: due.is(name, x.even(a), like.even(a)); break;
            case 17: due.is(name, x.turn(a), like.turn(a)); break;
            case 18: due.is(name, x.over(), like.over()); break;
            case 19: due.is(name, x.behind(), like.behind()); break;
            case 20: due.is(name, x.stretch(a), like.stretch(a)); break;
            case 21: due.is(name, x.twice(), like.twice()); break;
            case 22: due.is(name, x.cycle(a), like.cycle(a)); break;
            case 23: drift(name, random, x, like); break;
            case 24: due.is(name, x.undo(a / 3), like.undo(a / 3)); break;
            case 25: due.is(name, x.hear(a, b == 0), like.hear(a, b == 0)); break;
            case 26: due.is(name, x.hear(a % 8, b == 0), like.hear(a % 8, b == 0)); break;
            case 27: due.is(name, x.moves(), like.moves()); break;
            case 28: due.is(name, x.listen(), like.listen()); break;
            case 29: due.is(name, x.forget(), like.forget()); break;
            case 30: seed(name, random, x, like); break;
            case 31: due.is(name, x.keep(b), like.keep(b)); break;
            case 32: due.is(name, x.goBack(b), like.goBack(b)); break;
            default: sparse(name, random, x, like); break;
        }
    }

    private static void feedText(int run, Random random, TilingBeats x, Model like) {
        int length = random.nextInt(12);
        for (int i = 0; i < length; i++) {
            int letter = random.nextInt(80) == 0 ? ODD[random.nextInt(ODD.length)]
                    : SIGNS.charAt(random.nextInt(SIGNS.length()));
            due.is("run " + run + ": feed(" + letter + ")", x.feed(letter), like.feed(letter));
        }
    }

    private static void everyTold(String name, TilingBeats x, Model like) {
        for (int what = -1; what <= 17; what++) {
            due.is(name + ": told(" + what + ")", x.told(what), like.told(what));
        }
    }

    private static void everyTiling(String name, Random random, TilingBeats x, Model like) {
        int i = near(random, Math.max(1, like.told(3)));
        for (int what = -1; what <= 3; what++) {
            due.is(name + ": tiling(" + i + ", " + what + ")", x.tiling(i, what), like.tiling(i, what));
        }
        int beat = near(random, 23);
        due.is(name + ": who(" + i + ", " + beat + ")", x.who(i, beat), like.who(i, beat));
    }

    private static void steady(String name, Random random, TilingBeats x, Model like) {
        int n = near(random, 60);
        int q = near(random, 100);
        due.is(name + ": steady(" + n + ", " + q + ")", x.steady(n, q), like.steady(n, q));
    }

    private static void drift(String name, Random random, TilingBeats x, Model like) {
        int n = near(random, 4);
        due.is(name + ": drift(" + n + ")", x.drift(n), like.drift(n));
    }

    private static void seed(String name, Random random, TilingBeats x, Model like) {
        int v = random.nextInt();
        due.is(name + ": seed(" + v + ")", x.seed(v), like.seed(v));
    }

    /** A rhythm with as many struck beats as often fill. */
    private static void sparse(String name, Random random, TilingBeats x, Model like) {
        due.is(name, x.even(0), like.even(0));
        int n = like.told(0);
        for (int k = random.nextInt(4); k >= 0; k--) {
            int beat = random.nextInt(n);
            due.is(name, x.strike(beat), like.strike(beat));
        }
    }
}
