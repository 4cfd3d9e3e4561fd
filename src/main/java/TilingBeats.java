/**
 * Rhythms of a cycle of beats, and the shifted copies of a rhythm that strike each beat just once.
 *
 * The numbered promises of DOC.md say what each call answers. A SET is an int, bit k for beat k.
 * All rows are made in the constructor and used again, since all calls of a run share one room.
 */
public final class TilingBeats {
    public static final int NONE = -1, UNKNOWN = -1000000001, OUTSIDE = -1000000002,
            NOT = -1000000003, FULL = -1000000004;

    private static final int MOST_BEATS = 24;
    private static final int BEATS_AT_FIRST = 16;
    private static final int MOST_TURNED = 23;
    private static final int MOST_LETTERS = 60;
    private static final int MOST_DEEDS = 30;
    private static final int MOST_HEARD = 8;
    private static final int MOST_STEADY = 60;
    private static final int IMAGES = 2;
    private static final long BILLION = 1000000000L;
    private static final long TWO_TO_THE_31 = 2147483648L;

    /** No rhythm of 24 beats or fewer has more tilings: {0, 8, 16} of 24 has the most, 3 to the 7. */
    private static final int MOST_TILINGS = 2187;

    private final Text text;
    private final Past past;
    private final Ear ear;
    private final Tilings tilings;
    private final Mending mending;
    private final Images images;
    private int beats;
    private int rhythm;
    private int draws;
    private int faultAt;

    public TilingBeats() {
        text = new Text();
        past = new Past();
        ear = new Ear();
        tilings = new Tilings(MOST_TILINGS);
        mending = new Mending();
        images = new Images();
        beats = BEATS_AT_FIRST;
        rhythm = 0;
        draws = 0;
        faultAt = NONE;
    }

    // ---- the rhythm

    public int feed(int letter) {
        if (letter < 0 || letter > 255) {
            return OUTSIDE;
        }
        return text.append(letter);
    }

    public int tell() {
        int fault = text.read();
        text.clear();
        if (fault != 0) {
            faultAt = text.faultAt;
            return -10 - fault;
        }
        faultAt = NONE;
        change(text.beats, text.set);
        ear.clear();
        return beats;
    }

    public int fault() {
        return faultAt;
    }

    public int told(int what) {
        switch (what) {
            case 0: return beats;
            case 1: return Integer.bitCount(rhythm);
            case 2: return rhythm;
            case 3: return tilings.of(beats, rhythm);
            case 4: return Ring.period(beats, rhythm);
            case 5: return Necklace.value(beats, rhythm);
            case 6: return Necklace.least(beats, rhythm);
            case 7: return Necklace.leastTurn(beats, rhythm);
            case 8: return laterNecklace();
            case 9: return Ring.leastGap(beats, rhythm);
            case 10: return Ring.greatestGap(beats, rhythm);
            case 11: return isMostEven() ? 1 : 0;
            case 12: return Mending.sizeOf(mending.of(beats, rhythm));
            case 13: return mending.of(beats, rhythm);
            case 14: return text.count;
            case 15: return ear.count;
            case 16: return past.count;
            default: return OUTSIDE;
        }
    }

    public int tiling(int i, int what) {
        if (i < 0 || i >= tilings.of(beats, rhythm)) {
            return UNKNOWN;
        }
        int shifts = tilings.at(i);
        switch (what) {
            case 0: return shifts;
            case 1: return Integer.bitCount(shifts);
            case 2: return Ring.period(beats, shifts);
            default: return OUTSIDE;
        }
    }

    public int who(int i, int beat) {
        if (!isBeat(beat) || i < 0 || i >= tilings.of(beats, rhythm)) {
            return UNKNOWN;
        }
        int strikers = tilings.at(i) & Ring.turnsThatStrike(beats, rhythm, beat);
        return strikers == 0 ? NONE : Integer.numberOfTrailingZeros(strikers);
    }

    public int gap(int k) {
        return Ring.gapAt(beats, rhythm, k);
    }

    public int shared(int t) {
        if (t < 0 || t > MOST_TURNED) {
            return OUTSIDE;
        }
        return Integer.bitCount(rhythm & Ring.moved(beats, rhythm, t));
    }

    public int necklaces(int k, int what) {
        if (k < 0 || k > beats || what < 0 || what > 1) {
            return OUTSIDE;
        }
        return what == 0 ? Counts.turned(beats, k) : Counts.turnedOrMirrored(beats, k);
    }

    public int kin(int image) {
        if (!isImage(image)) {
            return UNKNOWN;
        }
        if (images.beats[image] != beats) {
            return NOT;
        }
        int like = Necklace.least(beats, images.rhythms[image]);
        int others = Ring.inverted(beats, rhythm);
        int kin = 0;
        kin |= Necklace.least(beats, rhythm) == like ? 1 : 0;
        kin |= Necklace.least(beats, Ring.mirrored(beats, rhythm)) == like ? 2 : 0;
        kin |= Necklace.least(beats, others) == like ? 4 : 0;
        kin |= Necklace.least(beats, Ring.mirrored(beats, others)) == like ? 8 : 0;
        return kin;
    }

    public int steady(int n, int q) {
        if (n < 0 || n > MOST_STEADY || q < 0 || q > 100) {
            return OUTSIDE;
        }
        long odds = BILLION;
        for (int i = 0; i < n; i++) {
            odds = odds * q / 100;
        }
        return (int) odds;
    }

    // ---- deeds

    public int strike(int beat) {
        if (!isBeat(beat)) {
            return UNKNOWN;
        }
        change(beats, rhythm ^ (1 << beat));
        return Ring.bit(rhythm, beat);
    }

    public int even(int k) {
        if (k < 0 || k > beats) {
            return OUTSIDE;
        }
        return change(beats, Ring.evenly(beats, k));
    }

    public int turn(int t) {
        if (t < 0 || t > MOST_TURNED) {
            return OUTSIDE;
        }
        return change(beats, Ring.moved(beats, rhythm, t));
    }

    public int over() {
        return change(beats, Ring.inverted(beats, rhythm));
    }

    public int behind() {
        return change(beats, Ring.mirrored(beats, rhythm));
    }

    public int stretch(int m) {
        if (m < 1 || m > MOST_TURNED) {
            return OUTSIDE;
        }
        int all = Ring.full(beats);
        if (Ring.stretched(beats, all, m) != all) {
            return NOT;
        }
        return change(beats, Ring.stretched(beats, rhythm, m));
    }

    public int twice() {
        if (2 * beats > MOST_BEATS) {
            return FULL;
        }
        change(2 * beats, rhythm | (rhythm << beats));
        return beats;
    }

    public int cycle(int n) {
        if (n < 1 || n > MOST_BEATS) {
            return OUTSIDE;
        }
        return Integer.bitCount(change(n, rhythm & Ring.full(n)));
    }

    public int drift(int n) {
        if (n < 1 || n > MOST_DEEDS) {
            return OUTSIDE;
        }
        for (int i = 0; i < n; i++) {
            changeByDraws();
        }
        return rhythm;
    }

    public int undo(int n) {
        if (n < 1 || n > MOST_DEEDS) {
            return OUTSIDE;
        }
        if (n > past.count) {
            return NOT;
        }
        past.stepBack(n);
        beats = past.beatsThen();
        rhythm = past.rhythmThen();
        return beats;
    }

    // ---- what is heard

    public int hear(int beat, boolean struck) {
        if (!isBeat(beat)) {
            return UNKNOWN;
        }
        return ear.add(beat, struck);
    }

    public int moves() {
        return ear.fitting(beats, rhythm);
    }

    public int listen() {
        int open = ear.fitting(beats, rhythm);
        int best = NONE;
        int bestPart = Integer.bitCount(open);
        for (int beat = 0; beat < beats; beat++) {
            int struck = Integer.bitCount(open & Ring.turnsThatStrike(beats, rhythm, beat));
            int part = Math.max(struck, Integer.bitCount(open) - struck);
            if (part < bestPart) {
                best = beat;
                bestPart = part;
            }
        }
        return best;
    }

    public int forget() {
        int had = ear.count;
        ear.clear();
        return had;
    }

    // ---- images

    public int seed(int v) {
        if (v < 0) {
            return OUTSIDE;
        }
        int was = draws;
        draws = v;
        return was;
    }

    public int keep(int i) {
        if (!isImage(i)) {
            return UNKNOWN;
        }
        images.beats[i] = beats;
        images.rhythms[i] = rhythm;
        images.draws[i] = draws;
        past.clear();
        return 1;
    }

    public int goBack(int i) {
        if (!isImage(i)) {
            return UNKNOWN;
        }
        if (images.beats[i] == 0) {
            return NOT;
        }
        beats = images.beats[i];
        rhythm = images.rhythms[i];
        draws = images.draws[i];
        past.clear();
        return 1;
    }

    // ---- within

    private boolean isBeat(int beat) {
        return beat >= 0 && beat < beats;
    }

    private boolean isImage(int i) {
        return i >= 0 && i < IMAGES;
    }

    private boolean isMostEven() {
        int evenly = Ring.evenly(beats, Integer.bitCount(rhythm));
        return Necklace.least(beats, rhythm) == Necklace.least(beats, evenly);
    }

    /** The most even necklace is the greatest one: the long search that finds none is spared. */
    private int laterNecklace() {
        return isMostEven() ? NONE : Necklace.later(beats, Necklace.least(beats, rhythm));
    }

    /** Every deed goes through here, so that each can be undone. */
    private int change(int newBeats, int newRhythm) {
        past.add(beats, rhythm);
        beats = newBeats;
        rhythm = newRhythm;
        return rhythm;
    }

    private void changeByDraws() {
        int kind = draw(8);
        if (kind <= 4) {
            change(beats, rhythm ^ (1 << draw(beats)));
        } else if (kind == 5) {
            change(beats, Ring.moved(beats, rhythm, draw(beats)));
        } else if (kind == 6) {
            change(beats, Ring.inverted(beats, rhythm));
        } else {
            change(beats, Ring.mirrored(beats, rhythm));
        }
    }

    private int draw(int n) {
        draws = (int) ((draws * 1103515245L + 12345L) % TWO_TO_THE_31);
        return Ring.leftOver(draws / 65536, n);
    }

    /** The text that tells a rhythm, and what was read from it. */
    private static final class Text {
        private final int[] letters;
        private int count;
        private int beats;
        private int set;
        /** The number that stands ahead of the next sign; 0 if none does. */
        private int times;
        private int faultAt;

        private Text() {
            letters = new int[MOST_LETTERS];
            clear();
        }

        private void clear() {
            count = 0;
        }

        private int append(int letter) {
            if (count < 0 || count >= letters.length) {
                return FULL;
            }
            letters[count] = letter;
            count++;
            return count;
        }

        /** The number of the first fault, which then stands at faultAt; 0 if there is none. */
        private int read() {
            beats = 0;
            set = 0;
            times = 0;
            int length = 1;
            for (int at = 0; at < count; at += length) {
                int figures = figuresFrom(at);
                length = Math.max(1, figures);
                faultAt = at;
                int fault = figures > 0 ? readNumber(at, figures) : readSign(letterAt(at));
                if (fault != 0) {
                    return fault;
                }
            }
            faultAt = count;
            return times != 0 || beats == 0 ? 1 : 0;
        }

        private int letterAt(int at) {
            return at < 0 || at >= count || at >= letters.length ? NONE : letters[at];
        }

        private int figuresFrom(int at) {
            int end = at;
            while (end < count && letterAt(end) >= '0' && letterAt(end) <= '9') {
                end++;
            }
            return end - at;
        }

        private int readNumber(int at, int figures) {
            if (times != 0 || letterAt(at) == '0') {
                return 1;
            }
            if (figures > 2) {
                return 2;
            }
            int number = letterAt(at) - '0';
            if (figures == 2) {
                number = 10 * number + letterAt(at + 1) - '0';
            }
            if (number > MOST_BEATS) {
                return 2;
            }
            times = number;
            return 0;
        }

        private int readSign(int letter) {
            if (letter == ' ') {
                return 0;
            }
            if (letter != 'x' && letter != '.') {
                return 1;
            }
            int more = Math.max(1, times);
            if (beats + more > MOST_BEATS) {
                return 3;
            }
            if (letter == 'x') {
                set |= Ring.full(more) << beats;
            }
            beats += more;
            times = 0;
            return 0;
        }
    }

    /** What was so ahead of each of the latest deeds: a ring, in which the oldest gives way. */
    private static final class Past {
        private final int[] beats;
        private final int[] rhythms;
        private int next;
        private int count;

        private Past() {
            beats = new int[MOST_DEEDS];
            rhythms = new int[MOST_DEEDS];
            clear();
        }

        private void clear() {
            next = 0;
            count = 0;
        }

        private void add(int beatsNow, int rhythmNow) {
            beats[place()] = beatsNow;
            rhythms[place()] = rhythmNow;
            next++;
            count = Math.min(count + 1, MOST_DEEDS);
        }

        private void stepBack(int n) {
            next -= n;
            count -= n;
        }

        /** Where the next deed goes, or the one that was stepped back to lies. */
        private int place() {
            return Ring.leftOver(next, MOST_DEEDS);
        }

        private int beatsThen() {
            return beats[place()];
        }

        private int rhythmThen() {
            return rhythms[place()];
        }
    }

    /** Beats that were heard, struck or not. */
    private static final class Ear {
        private final int[] heard;
        private final boolean[] struck;
        private int count;

        private Ear() {
            heard = new int[MOST_HEARD];
            struck = new boolean[MOST_HEARD];
            clear();
        }

        private void clear() {
            count = 0;
        }

        private int add(int beat, boolean wasStruck) {
            if (count < 0 || count >= MOST_HEARD) {
                return FULL;
            }
            heard[count] = beat;
            struck[count] = wasStruck;
            count++;
            return count;
        }

        /** The turns of a rhythm by which all that was heard is so. */
        private int fitting(int n, int rhythm) {
            int open = Ring.full(n);
            for (int i = 0; i < count && i < MOST_HEARD; i++) {
                if (heard[i] >= n) {
                    return 0;
                }
                int striking = Ring.turnsThatStrike(n, rhythm, heard[i]);
                open &= struck[i] ? striking : ~striking;
            }
            return open;
        }
    }

    /** What goBack() goes back to; an image of 0 beats was never kept. */
    private static final class Images {
        private final int[] beats;
        private final int[] rhythms;
        private final int[] draws;

        private Images() {
            beats = new int[IMAGES];
            rhythms = new int[IMAGES];
            draws = new int[IMAGES];
        }
    }

    /** Sets of beats in a cycle of n beats. */
    private static final class Ring {
        private static int full(int n) {
            return (1 << n) - 1;
        }

        private static int bit(int set, int beat) {
            return (set >>> beat) & 1;
        }

        private static int leftOver(int a, int n) {
            if (n < 1) {
                return 0;
            }
            int rest = a % n;
            return rest < 0 ? rest + n : rest;
        }

        private static int quotient(int a, int n) {
            return n < 1 ? 0 : a / n;
        }

        private static int moved(int n, int set, int t) {
            int by = leftOver(t, n);
            return ((set << by) | (set >>> (n - by))) & full(n);
        }

        private static int inverted(int n, int set) {
            return full(n) & ~set;
        }

        private static int mirrored(int n, int set) {
            return stretched(n, set, -1);
        }

        private static int stretched(int n, int set, int m) {
            int result = 0;
            for (int beat = 0; beat < n; beat++) {
                if (bit(set, beat) == 1) {
                    result |= 1 << leftOver(beat * m, n);
                }
            }
            return result;
        }

        private static int evenly(int n, int k) {
            int result = 0;
            for (int beat = 0; beat < n; beat++) {
                if (leftOver(beat * k, n) < k) {
                    result |= 1 << beat;
                }
            }
            return result;
        }

        private static int period(int n, int set) {
            for (int t = 1; t < n; t++) {
                if (moved(n, set, t) == set) {
                    return t;
                }
            }
            return n;
        }

        /** The turns t that strike a beat: those that lie a struck beat ahead of it. */
        private static int turnsThatStrike(int n, int set, int beat) {
            return moved(n, mirrored(n, set), beat);
        }

        private static int gapAt(int n, int set, int k) {
            int count = Integer.bitCount(set);
            if (k < 0 || k >= count) {
                return NONE;
            }
            int from = struckAt(n, set, k);
            return k + 1 < count ? struckAt(n, set, k + 1) - from : struckAt(n, set, 0) + n - from;
        }

        private static int struckAt(int n, int set, int k) {
            int left = k;
            for (int beat = 0; beat < n; beat++) {
                if (bit(set, beat) == 1) {
                    if (left == 0) {
                        return beat;
                    }
                    left--;
                }
            }
            return NONE;
        }

        private static int leastGap(int n, int set) {
            int least = gapAt(n, set, 0);
            for (int k = 1; k < Integer.bitCount(set); k++) {
                least = Math.min(least, gapAt(n, set, k));
            }
            return least;
        }

        private static int greatestGap(int n, int set) {
            int greatest = gapAt(n, set, 0);
            for (int k = 1; k < Integer.bitCount(set); k++) {
                greatest = Math.max(greatest, gapAt(n, set, k));
            }
            return greatest;
        }
    }

    /** Rhythms read as numbers, beat 0 highest, and the least number of all turns. */
    private static final class Necklace {
        private static int value(int n, int set) {
            int value = 0;
            for (int beat = 0; beat < n; beat++) {
                value = 2 * value + Ring.bit(set, beat);
            }
            return value;
        }

        /** Beat 0 is highest in a value, so that later beats lie lower: it turns the other way. */
        private static int valueTurned(int n, int value, int t) {
            return Ring.moved(n, value, -t);
        }

        private static int leastTurn(int n, int set) {
            int value = value(n, set);
            int best = 0;
            int bestValue = value;
            for (int t = 1; t < n; t++) {
                int other = valueTurned(n, value, t);
                if (other < bestValue) {
                    best = t;
                    bestValue = other;
                }
            }
            return best;
        }

        private static int least(int n, int set) {
            return valueTurned(n, value(n, set), leastTurn(n, set));
        }

        /**
         * The next necklace keeps as long a head of this one as can be, and has a 1 behind it
         * where this one has a 0.
         */
        private static int later(int n, int necklace) {
            int ones = Integer.bitCount(necklace);
            for (int at = n - 1; at >= 0; at--) {
                int bit = 1 << (n - 1 - at);
                if ((necklace & bit) == 0) {
                    int head = (necklace & -bit) | bit;
                    int found = completed(n, ones, head, at + 1, at + 1);
                    if (found != NONE) {
                        return found;
                    }
                }
            }
            return NONE;
        }

        /**
         * The least necklace with so many ones whose first signs are those of head. The head's
         * first signs that are less than all their own turns are `unit` many: what follows may
         * never be less than what stands a unit before, and the whole must be units to the end.
         */
        private static int completed(int n, int ones, int head, int at, int unit) {
            int has = Integer.bitCount(head);
            if (has > ones || has + n - at < ones) {
                return NONE;
            }
            if (at >= n) {
                return Ring.leftOver(n, unit) == 0 ? head : NONE;
            }
            int withOne = head | (1 << (n - 1 - at));
            if (Ring.bit(head, n - 1 - at + unit) == 1) {
                return completed(n, ones, withOne, at + 1, unit);
            }
            int found = completed(n, ones, head, at + 1, unit);
            return found != NONE ? found : completed(n, ones, withOne, at + 1, at + 1);
        }
    }

    /** How many necklaces and bracelets there are: the mean of what each turn and mirror keeps. */
    private static final class Counts {
        private static int turned(int n, int k) {
            return Ring.quotient(keptByTurns(n, k), n);
        }

        private static int turnedOrMirrored(int n, int k) {
            return Ring.quotient(keptByTurns(n, k) + keptByMirrors(n, k), 2 * n);
        }

        private static int keptByTurns(int n, int k) {
            int sum = 0;
            for (int t = 0; t < n; t++) {
                int orbits = commonDivisor(n, t);
                int size = Ring.quotient(n, orbits);
                if (Ring.leftOver(k, size) == 0) {
                    sum += choose(orbits, Ring.quotient(k, size));
                }
            }
            return sum;
        }

        private static int keptByMirrors(int n, int k) {
            int sum = 0;
            for (int axis = 0; axis < n; axis++) {
                int still = stillBeats(n, axis);
                int pairs = (n - still) / 2;
                for (int j = 0; j <= still && j <= k; j++) {
                    if (Ring.leftOver(k - j, 2) == 0) {
                        sum += choose(still, j) * choose(pairs, (k - j) / 2);
                    }
                }
            }
            return sum;
        }

        /** How many beats the mirror that makes beat i beat axis - i leaves where they are. */
        private static int stillBeats(int n, int axis) {
            int still = 0;
            for (int beat = 0; beat < n; beat++) {
                if (Ring.leftOver(2 * beat - axis, n) == 0) {
                    still++;
                }
            }
            return still;
        }

        private static int commonDivisor(int n, int t) {
            for (int d = n; d > 1; d--) {
                if (Ring.leftOver(n, d) == 0 && Ring.leftOver(t, d) == 0) {
                    return d;
                }
            }
            return 1;
        }

        private static int choose(int n, int k) {
            if (k > n) {
                return 0;
            }
            int ways = 1;
            for (int i = 1; i <= k; i++) {
                ways = Ring.quotient(ways * (n + 1 - i), i);
            }
            return ways;
        }
    }

    /** The tilings of the rhythm that was looked at last, as their sets of shifts rise. */
    private static final class Tilings {
        private final int[] sets;
        private final int[] struck;
        private int struckCount;
        private int count;
        private int beats;
        private int rhythm;

        /** With `most` lower than a rhythm's tilings, the search ends when so many are found. */
        private Tilings(int most) {
            sets = new int[Math.max(1, most)];
            struck = new int[MOST_BEATS];
            struckCount = 0;
            count = 0;
            beats = 0;
            rhythm = 0;
        }

        /** How many there are. They are kept, since most calls ask of the same rhythm again. */
        private int of(int n, int set) {
            if (n == beats && set == rhythm) {
                return count;
            }
            beats = n;
            rhythm = set;
            count = 0;
            int size = Integer.bitCount(set);
            if (size > 0 && Ring.leftOver(n, size) == 0) {
                listStruck();
                cover(this, rhythm, 1, 0);
                sort();
            }
            return count;
        }

        private int at(int i) {
            return i < 0 || i >= count || i >= sets.length ? NONE : sets[i];
        }

        private void listStruck() {
            struckCount = 0;
            for (int beat = 0; beat < beats && beat < struck.length; beat++) {
                if (Ring.bit(rhythm, beat) == 1) {
                    struck[struckCount] = beat;
                    struckCount++;
                }
            }
        }

        /** The lowest open beat must be struck by just one copy: each of these is tried. */
        private static void cover(Tilings found, int covered, int shifts, int depth) {
            if (found.count < 0 || found.count >= found.sets.length || depth > MOST_BEATS) {
                return;
            }
            int open = Ring.inverted(found.beats, covered);
            if (open == 0) {
                found.sets[found.count] = shifts;
                found.count++;
                return;
            }
            int lowest = Integer.numberOfTrailingZeros(open);
            for (int i = 0; i < found.struckCount && i < found.struck.length; i++) {
                int t = Ring.leftOver(lowest - found.struck[i], found.beats);
                int copy = Ring.moved(found.beats, found.rhythm, t);
                if ((copy & covered) == 0) {
                    cover(found, covered | copy, shifts | (1 << t), depth + 1);
                }
            }
        }

        /** Shell's sort: thousands of sets are too many to move one place at a time. */
        private void sort() {
            for (int step = count / 2; step > 0; step = step == 2 ? 1 : step * 5 / 11) {
                for (int i = step; i < count && i < sets.length; i++) {
                    int set = sets[i];
                    int to = i;
                    while (to >= step && sets[to - step] > set) {
                        sets[to] = sets[to - step];
                        to -= step;
                    }
                    sets[to] = set;
                }
            }
        }
    }

    /** The fewest beats to strike otherwise so that the rhythm that was looked at last fills. */
    private static final class Mending {
        private static final int MOST_MENDED = 3;
        /** So many sets of three beats of 24 there are. */
        private static final int MOST_TRIED = 2024;
        /** Above every set of beats. */
        private static final int NO_MORE = 1 << 30;

        private final Tilings probe;
        private int beats;
        private int rhythm;
        private int mended;

        private Mending() {
            probe = new Tilings(1);
            beats = 0;
            rhythm = 0;
            mended = NONE;
        }

        private static int sizeOf(int mendedSet) {
            return mendedSet == NONE ? NONE : Integer.bitCount(mendedSet);
        }

        /** The set of these beats, which is kept, since it is asked for its size, too. */
        private int of(int n, int set) {
            if (n == beats && set == rhythm) {
                return mended;
            }
            beats = n;
            rhythm = set;
            mended = NONE;
            for (int size = 0; size <= MOST_MENDED && mended == NONE; size++) {
                mended = leastOfSize(size);
            }
            return mended;
        }

        private int leastOfSize(int size) {
            int set = Ring.full(size);
            for (int i = 0; i < MOST_TRIED && set <= Ring.full(beats); i++) {
                if (probe.of(beats, rhythm ^ set) > 0) {
                    return set;
                }
                set = nextOfSize(set);
            }
            return NONE;
        }

        /** The lowest run of bits: its highest goes one up, the others go to the bottom. */
        private static int nextOfSize(int set) {
            if (set == 0) {
                return NO_MORE;
            }
            int carried = set + (set & -set);
            return carried | ((set ^ carried) >>> (2 + Integer.numberOfTrailingZeros(set)));
        }
    }
}
