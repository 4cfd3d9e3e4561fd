/** Promise 10, of 5 what is read as a number, and the Terms VALUE to BRACELETS. */
final class NecklaceEdges {
    private static final int NONE = -1, OUTSIDE = -1000000002;
    private static final int LEAST = Integer.MIN_VALUE, GREATEST = Integer.MAX_VALUE;

    private NecklaceEdges() {
    }

    static void all(Edges e) {
        value(e);
        necklace(e);
        leastTurn(e);
        later(e);
        eachComesOnce(e);
        noLater(e);
        howManyNecklaces(e);
        howManyBracelets(e);
        necklaces(e);
    }

    private static void value(Edges e) {
        e.says("Terms", "VALUE: the number whose bits are THE RHYTHM with BEAT 0 highest (N bits).");
        e.is("x", Due.told("x").told(5), 1);
        e.is(".", Due.told(".").told(5), 0);
        e.is("BEAT 0 of 24", Due.told("x23.").told(5), 8388608);
        e.is("BEAT 23 of 24", Due.told("23.x").told(5), 1);
        e.is("all of 24", Due.told("24x").told(5), 16777215);
        e.is("none of 24", Due.told("24.").told(5), 0);
        TilingBeats x = Due.told("x.");
        e.is("two bits", x.told(5), 2);
        x.cycle(3);
        e.is("three bits", x.told(5), 4);
        e.says("Promise 5", "5 VALUE,");
        e.is("xx.x", Due.told("xx.x").told(5), 13);
    }

    private static void necklace(Edges e) {
        e.says("Terms", "NECKLACE: the least VALUE of THE RHYTHM MOVED by any t;");
        e.is("x", Due.told("x").told(6), 1);
        e.is("none of 24", Due.told("24.").told(6), 0);
        e.is("all of 24", Due.told("24x").told(6), 16777215);
        e.is("BEAT 0 of 24", Due.told("x23.").told(6), 1);
        e.is("BEAT 22 of 24", Due.told("22.x.").told(6), 1);
        e.is("all but BEAT 23", Due.told("23x.").told(6), 8388607);
        e.is("round the end", Due.told("x.xx").told(6), 7);
        e.is("least already", Due.told("..xx").told(6), 3);
        e.is("not read from behind", Due.told("x.xx...").told(6), 11);
        e.is("the other hand", Due.told("xx.x...").told(6), 13);
        e.says("Promise 5", "6 NECKLACE,");
        e.is("x.x.", Due.told("x.x.").told(6), 5);
    }

    private static void leastTurn(Edges e) {
        e.says("Terms", "the least t.");
        e.is("least already", Due.told("..xx").told(7), 0);
        e.is("N less 1", Due.told("23.x").told(7), 0);
        e.is("BEAT 0 of 24", Due.told("x23.").told(7), 23);
        e.is("BEAT 22 of 24", Due.told("22.x.").told(7), 1);
        e.is("none", Due.told("24.").told(7), 0);
        e.is("all", Due.told("24x").told(7), 0);
        e.is("of t 1, 3 the least", Due.told("x.x.").told(7), 1);
        e.is("of t 0, 2 the least", Due.told(".x.x").told(7), 0);
        e.is("of t 7, 15, 23 the least", Due.told("x7.x7.x7.").told(7), 7);
        e.says("Promise 5", "7 the least t,");
        e.is("one BEAT", Due.told("x").told(7), 0);
    }

    private static void later(Edges e) {
        e.says("Terms", "LATER: the least NECKLACE that is greater, of as many STRUCK ones and N;");
        e.is("of 2 of 4", Due.told("..xx").told(8), 5);
        e.is("of a turned one", Due.told("xx..").told(8), 5);
        int[] threeOfSix = {7, 11, 13, 21};
        String[] texts = {"xxx...", "x.xx..", "xx.x..", "x.x.x."};
        for (int i = 0; i < 4; i++) {
            e.is("NECKLACE of " + texts[i], Due.told(texts[i]).told(6), threeOfSix[i]);
            e.is("LATER than " + texts[i], Due.told(texts[i]).told(8), i < 3 ? threeOfSix[i + 1] : NONE);
        }
        e.is("halves of 24", Due.told("12x12.").told(8), 6143);
        e.is("the first two of 24", Due.told("22.xx").told(8), 5);
        e.is("the last but one of two of 24", Due.told("x10.x12.").told(8), 4097);
        e.is("all but two of 24", Due.told("..22x").told(8), (1 << 23) - 1 - (1 << 21));
        e.says("Promise 5", "8 LATER,");
        e.is("x.xx..", Due.told("x.xx..").told(8), 13);
    }

    private static void eachComesOnce(Edges e) {
        e.says("Terms", "LATER: the least NECKLACE that is greater, of as many STRUCK ones and N;");
        for (int n = 1; n <= 11; n++) {
            TilingBeats x = new TilingBeats();
            x.cycle(n);
            for (int k = 0; k <= n; k++) {
                e.is(k + " of " + n, countByLater(n, k), x.necklaces(k, 0));
            }
        }
        e.is("3 of 24", countByLater(24, 3), 85);
        e.is("21 of 24", countByLater(24, 21), 85);
    }

    /** From the first necklace on, BEATS N less k to N less 1, to the last. */
    private static int countByLater(int n, int k) {
        int count = 0;
        int value = (1 << k) - 1;
        while (value != NONE && count < 1000) {
            TilingBeats x = new TilingBeats();
            x.cycle(n);
            for (int beat = 0; beat < n; beat++) {
                if ((value >> n - 1 - beat & 1) == 1) {
                    x.strike(beat);
                }
            }
            count += x.told(6) == value && x.told(1) == k ? 1 : 1000;
            value = x.told(8);
        }
        return count;
    }

    private static void noLater(Edges e) {
        e.says("Terms", "LATER: the least NECKLACE that is greater, of as many STRUCK ones and N; NONE.");
        e.is("the greatest of two of 24", Due.told("x11.x11.").told(8), NONE);
        e.is("the greatest of twelve of 24", Due.told("x.x.x.x.x.x.x.x.x.x.x.x.").told(8), NONE);
        for (int n = 1; n <= 24; n++) {
            e.is("none of " + n, Due.told(n + ".").told(8), NONE);
            e.is("all of " + n, Due.told(n + "x").told(8), NONE);
            TilingBeats x = new TilingBeats();
            x.cycle(n);
            x.strike(n / 2);
            e.is("one of " + n, x.told(8), NONE);
            x.over();
            e.is("all but one of " + n, x.told(8), NONE);
        }
    }

    private static void howManyNecklaces(Edges e) {
        e.says("Terms", "NECKLACES of k: how many there are with k STRUCK of N;");
        for (int n = 1; n <= 24; n++) {
            TilingBeats x = new TilingBeats();
            x.cycle(n);
            e.is("0 of " + n, x.necklaces(0, 0), 1);
            e.is("all of " + n, x.necklaces(n, 0), 1);
            e.is("one of " + n, x.necklaces(1, 0), 1);
            e.is("all but one of " + n, x.necklaces(n - 1, 0), 1);
            e.is("two of " + n, x.necklaces(Math.min(2, n), 0), Math.max(1, n / 2));
        }
        e.is("3 of 6", Due.told("6.").necklaces(3, 0), 4);
        e.is("12 of 24", Due.told("24.").necklaces(12, 0), 112720);
        e.is("THE RHYTHM does not matter", Due.told("24x").necklaces(12, 0), 112720);
    }

    private static void howManyBracelets(Edges e) {
        e.says("Terms", "BRACELETS: likewise, those that are the same BEHIND, somehow MOVED, counted as one.");
        for (int n = 1; n <= 24; n++) {
            TilingBeats x = new TilingBeats();
            x.cycle(n);
            e.is("0 of " + n, x.necklaces(0, 1), 1);
            e.is("all of " + n, x.necklaces(n, 1), 1);
            e.is("one of " + n, x.necklaces(1, 1), 1);
            e.is("all but one of " + n, x.necklaces(n - 1, 1), 1);
            e.is("two of " + n, x.necklaces(Math.min(2, n), 1), Math.max(1, n / 2));
        }
        e.is("3 of 5", Due.told("5.").necklaces(3, 1), 2);
        e.is("3 of 6: x.xx.. and xx.x.. are one", Due.told("6.").necklaces(3, 1), 3);
        e.is("3 of 7: x.xx... and xx.x... are one", Due.told("7.").necklaces(3, 1), 4);
        e.is("12 of 24", Due.told("24.").necklaces(12, 1), 56822);
    }

    private static void necklaces(Edges e) {
        e.says("Promise 10", "NECKLACES (what 0), BRACELETS (1) of k (0 .. N).");
        TilingBeats x = Due.told("7x");
        e.is("necklaces(3, 0)", x.necklaces(3, 0), 5);
        e.is("necklaces(3, 1)", x.necklaces(3, 1), 4);
        e.is("necklaces(0, 0)", x.necklaces(0, 0), 1);
        e.is("necklaces(7, 1)", x.necklaces(7, 1), 1);
        e.says("Promise 10", "OUTSIDE.");
        for (int k : new int[] {LEAST, -1, 8, 24, GREATEST}) {
            e.is("necklaces(" + k + ", 0)", x.necklaces(k, 0), OUTSIDE);
            e.is("necklaces(" + k + ", 1)", x.necklaces(k, 1), OUTSIDE);
        }
        for (int what : new int[] {LEAST, -1, 2, GREATEST}) {
            e.is("necklaces(0, " + what + ")", x.necklaces(0, what), OUTSIDE);
        }
        x.cycle(8);
        e.is("8 of 8 then", x.necklaces(8, 0), 1);
        x.cycle(24);
        e.is("24 of 24", x.necklaces(24, 1), 1);
        e.is("25 of 24", x.necklaces(25, 1), OUTSIDE);
    }
}
