import java.util.ArrayList;
import java.util.Arrays;
import java.util.HashMap;
import java.util.List;
import java.util.Map;
import java.util.TreeSet;

/**
 * The document told once more, as plainly as can be and by other means than TilingBeats: rhythms
 * are texts of '0' and '1', and what is sought is found by trying all there is.
 */
final class Model {
    private static final int NONE = -1, UNKNOWN = -1000000001, OUTSIDE = -1000000002,
            NOT = -1000000003, FULL = -1000000004;
    private static final Map<String, int[]> TILINGS = new HashMap<>();
    private static final Map<String, int[]> MENDED = new HashMap<>();
    private static final Map<Integer, List<TreeSet<String>>> NECKLACES = new HashMap<>();

    private String rhythm = "0".repeat(16);
    private String text = "";
    private int faultAt = NONE;
    private long seed = 0;
    private final List<String> past = new ArrayList<>();
    private final List<Integer> heardBeats = new ArrayList<>();
    private final List<Boolean> heardStruck = new ArrayList<>();
    private final String[] keptRhythms = new String[2];
    private final long[] keptSeeds = new long[2];

    // ---- texts of '0' and '1'

    private static boolean on(String r, int beat) {
        return r.charAt(Math.floorMod(beat, r.length())) == '1';
    }

    private static String moved(String r, int t) {
        StringBuilder result = new StringBuilder();
        for (int beat = 0; beat < r.length(); beat++) {
            result.append(on(r, beat - t) ? '1' : '0');
        }
        return result.toString();
    }

    private static String behindOf(String r) {
        return r.charAt(0) + new StringBuilder(r.substring(1)).reverse().toString();
    }

    private static String overOf(String r) {
        return r.replace('0', '2').replace('1', '0').replace('2', '1');
    }

    private static String evenOf(int n, int k) {
        StringBuilder result = new StringBuilder();
        for (int i = 0; i < n; i++) {
            result.append(i * k % n < k ? '1' : '0');
        }
        return result.toString();
    }

    private static int setOf(String r) {
        return Integer.parseInt(new StringBuilder(r).reverse().toString(), 2);
    }

    private static String ofSet(int n, int set) {
        StringBuilder result = new StringBuilder();
        for (int i = 0; i < n; i++) {
            result.append((set >> i & 1) == 1 ? '1' : '0');
        }
        return result.toString();
    }

    private static int ones(String r) {
        return r.replace("0", "").length();
    }

    private static int periodOf(String r) {
        int t = 1;
        while (!moved(r, t).equals(r)) {
            t++;
        }
        return t;
    }

    private static int leastTurn(String r) {
        int best = 0;
        for (int t = 1; t < r.length(); t++) {
            if (moved(r, t).compareTo(moved(r, best)) < 0) {
                best = t;
            }
        }
        return best;
    }

    private static String necklaceOf(String r) {
        return moved(r, leastTurn(r));
    }

    private static boolean turnsInto(String r, String other) {
        return (r + r).contains(other);
    }

    // ---- what is sought

    /** All sets of shifts, decided from the highest shift down, without it first: they rise. */
    private static int[] tilingsOf(String r) {
        return TILINGS.computeIfAbsent(r, key -> {
            List<Integer> found = new ArrayList<>();
            int n = key.length();
            if (ones(key) > 0) {
                int[] copies = new int[n];
                for (int t = 0; t < n; t++) {
                    copies[t] = setOf(moved(key, t));
                }
                decide(copies, n - 1, copies[0], 1, found);
            }
            int[] result = new int[found.size()];
            for (int i = 0; i < result.length; i++) {
                result[i] = found.get(i);
            }
            return result;
        });
    }

    private static void decide(int[] copies, int t, int covered, int shifts, List<Integer> found) {
        int all = (1 << copies.length) - 1;
        int reach = covered;
        for (int s = 1; s <= t; s++) {
            reach |= (copies[s] & covered) == 0 ? copies[s] : 0;
        }
        if (reach != all) {
            return;
        }
        if (t <= 0) {
            found.add(shifts);
            return;
        }
        decide(copies, t - 1, covered, shifts, found);
        if ((copies[t] & covered) == 0) {
            decide(copies, t - 1, covered | copies[t], shifts | 1 << t, found);
        }
    }

    private static int[] mendedOf(String r) {
        return MENDED.computeIfAbsent(r, key -> {
            int n = key.length();
            int[] best = {NONE, NONE};
            for (int size = 0; size <= 3 && best[0] == NONE; size++) {
                for (int a = 0; a < n; a++) {
                    for (int b = 0; b < n; b++) {
                        for (int c = 0; c < n; c++) {
                            int set = (size > 0 ? 1 << a : 0) | (size > 1 ? 1 << b : 0)
                                    | (size > 2 ? 1 << c : 0);
                            boolean less = best[0] == NONE || set < best[1];
                            boolean once = (size > 0 || a == 0) && (size > 1 || b == 0)
                                    && (size > 2 || c == 0);
                            if (less && once && Integer.bitCount(set) == size && fills(n, setOf(key) ^ set)) {
                                best[0] = size;
                                best[1] = set;
                            }
                        }
                    }
                }
            }
            return best;
        });
    }

    private static boolean fills(int n, int set) {
        int k = Integer.bitCount(set);
        return k > 0 && n % k == 0 && tilingsOf(ofSet(n, set)).length > 0;
    }

    /** All necklaces of n beats by how many are struck, from all rhythms there are. */
    private static List<TreeSet<String>> necklacesOf(int n) {
        return NECKLACES.computeIfAbsent(n, key -> {
            List<TreeSet<String>> all = new ArrayList<>();
            for (int k = 0; k <= key; k++) {
                all.add(new TreeSet<>());
            }
            for (int value = 0; value < 1 << key; value++) {
                if (isLeast(key, value)) {
                    String bits = new StringBuilder(ofSet(key, value)).reverse().toString();
                    all.get(Integer.bitCount(value)).add(bits);
                }
            }
            return all;
        });
    }

    private static boolean isLeast(int n, int value) {
        int all = (1 << n) - 1;
        for (int t = 1; t < n; t++) {
            if (((value << t | value >> n - t) & all) < value) {
                return false;
            }
        }
        return true;
    }

    private int later() {
        String next = necklacesOf(rhythm.length()).get(ones(rhythm)).higher(necklaceOf(rhythm));
        return next == null ? NONE : Integer.parseInt(next, 2);
    }

    private List<Integer> gaps() {
        List<Integer> gaps = new ArrayList<>();
        for (int beat = 0; beat < rhythm.length(); beat++) {
            if (on(rhythm, beat)) {
                int next = beat + 1;
                while (!on(rhythm, next)) {
                    next++;
                }
                gaps.add(next - beat);
            }
        }
        return gaps;
    }

    // ---- the text

    private static boolean figure(String s, int at) {
        return at >= 0 && at < s.length() && s.charAt(at) >= '0' && s.charAt(at) <= '9';
    }

    private static String numberAt(String s, int at) {
        int end = at;
        while (figure(s, end)) {
            end++;
        }
        return s.substring(at, end);
    }

    /** The place of the last letter ahead that is no blank. */
    private static int lastAhead(String s, int at) {
        int last = at - 1;
        while (last >= 0 && s.charAt(last) == ' ') {
            last--;
        }
        return last;
    }

    private static int timesAt(String s, int at) {
        int last = lastAhead(s, at);
        int first = last;
        while (figure(s, first - 1)) {
            first--;
        }
        return figure(s, last) ? Integer.parseInt(s.substring(first, last + 1)) : 1;
    }

    private static boolean sign(String s, int at) {
        return s.charAt(at) == 'x' || s.charAt(at) == '.';
    }

    private static int beatsUpTo(String s, int at) {
        int sum = 0;
        for (int i = 0; i < at; i++) {
            sum += sign(s, i) ? timesAt(s, i) : 0;
        }
        return sum;
    }

    private static boolean cannotStand(String s, int at) {
        if (at == s.length()) {
            return figure(s, lastAhead(s, at)) || !(s.contains("x") || s.contains("."));
        }
        if (figure(s, at)) {
            boolean head = !figure(s, at - 1);
            return head && (s.charAt(at) == '0' || figure(s, lastAhead(s, at)));
        }
        return !sign(s, at) && s.charAt(at) != ' ';
    }

    private static int faultAt(String s, int at) {
        if (cannotStand(s, at)) {
            return 1;
        }
        if (figure(s, at) && !figure(s, at - 1)) {
            String number = numberAt(s, at);
            return number.length() > 2 || Integer.parseInt(number) > 24 ? 2 : 0;
        }
        return at < s.length() && sign(s, at) && beatsUpTo(s, at + 1) > 24 ? 3 : 0;
    }

    // ---- the face

    int feed(int letter) {
        if (letter < 0 || letter > 255) {
            return OUTSIDE;
        }
        if (text.length() >= 60) {
            return FULL;
        }
        text += (char) letter;
        return text.length();
    }

    int tell() {
        String s = text;
        text = "";
        for (int at = 0; at <= s.length(); at++) {
            if (faultAt(s, at) != 0) {
                faultAt = at;
                return -10 - faultAt(s, at);
            }
        }
        StringBuilder result = new StringBuilder();
        for (int at = 0; at < s.length(); at++) {
            if (sign(s, at)) {
                result.append((s.charAt(at) == 'x' ? "1" : "0").repeat(timesAt(s, at)));
            }
        }
        faultAt = NONE;
        deed(result.toString());
        forget();
        return rhythm.length();
    }

    int fault() {
        return faultAt;
    }

    int told(int what) {
        List<Integer> gaps = ones(rhythm) == 0 ? List.of(NONE) : gaps();
        switch (what) {
            case 0: return rhythm.length();
            case 1: return ones(rhythm);
            case 2: return setOf(rhythm);
            case 3: return tilingsOf(rhythm).length;
            case 4: return periodOf(rhythm);
            case 5: return Integer.parseInt(rhythm, 2);
            case 6: return Integer.parseInt(necklaceOf(rhythm), 2);
            case 7: return leastTurn(rhythm);
            case 8: return later();
            case 9: return gaps.stream().min(Integer::compare).get();
            case 10: return gaps.stream().max(Integer::compare).get();
            case 11: return turnsInto(rhythm, evenOf(rhythm.length(), ones(rhythm))) ? 1 : 0;
            case 12: return mendedOf(rhythm)[0];
            case 13: return mendedOf(rhythm)[1];
            case 14: return text.length();
            case 15: return heardBeats.size();
            case 16: return past.size();
            default: return OUTSIDE;
        }
    }

    int tiling(int i, int what) {
        int[] all = tilingsOf(rhythm);
        if (i < 0 || i >= all.length) {
            return UNKNOWN;
        }
        String shifts = ofSet(rhythm.length(), all[i]);
        int[] answers = {all[i], ones(shifts), periodOf(shifts)};
        return what < 0 || what > 2 ? OUTSIDE : answers[what];
    }

    int who(int i, int beat) {
        int[] all = tilingsOf(rhythm);
        if (i < 0 || i >= all.length || beat < 0 || beat >= rhythm.length()) {
            return UNKNOWN;
        }
        int t = 0;
        while ((all[i] >> t & 1) == 0 || !on(moved(rhythm, t), beat)) {
            t++;
        }
        return t;
    }

    int gap(int k) {
        return k < 0 || k >= ones(rhythm) ? NONE : gaps().get(k);
    }

    int shared(int t) {
        if (t < 0 || t > 23) {
            return OUTSIDE;
        }
        return Integer.bitCount(setOf(rhythm) & setOf(moved(rhythm, t)));
    }

    int necklaces(int k, int what) {
        if (k < 0 || k > rhythm.length() || what < 0 || what > 1) {
            return OUTSIDE;
        }
        TreeSet<String> all = necklacesOf(rhythm.length()).get(k);
        if (what == 0) {
            return all.size();
        }
        int count = 0;
        for (String r : all) {
            count += necklaceOf(behindOf(r)).compareTo(r) >= 0 ? 1 : 0;
        }
        return count;
    }

    int kin(int image) {
        if (image < 0 || image > 1) {
            return UNKNOWN;
        }
        String kept = keptRhythms[image];
        if (kept == null || kept.length() != rhythm.length()) {
            return NOT;
        }
        return (turnsInto(kept, rhythm) ? 1 : 0) + (turnsInto(behindOf(kept), rhythm) ? 2 : 0)
                + (turnsInto(overOf(kept), rhythm) ? 4 : 0)
                + (turnsInto(behindOf(overOf(kept)), rhythm) ? 8 : 0);
    }

    int steady(int n, int q) {
        if (n < 0 || n > 60 || q < 0 || q > 100) {
            return OUTSIDE;
        }
        long odds = 1000000000;
        for (int i = 0; i < n; i++) {
            odds = odds * q / 100;
        }
        return (int) odds;
    }

    private void deed(String then) {
        past.add(rhythm);
        if (past.size() > 30) {
            past.remove(0);
        }
        rhythm = then;
    }

    int strike(int beat) {
        if (beat < 0 || beat >= rhythm.length()) {
            return UNKNOWN;
        }
        char then = on(rhythm, beat) ? '0' : '1';
        deed(rhythm.substring(0, beat) + then + rhythm.substring(beat + 1));
        return then - '0';
    }

    int even(int k) {
        if (k < 0 || k > rhythm.length()) {
            return OUTSIDE;
        }
        deed(evenOf(rhythm.length(), k));
        return setOf(rhythm);
    }

    int turn(int t) {
        if (t < 0 || t > 23) {
            return OUTSIDE;
        }
        deed(moved(rhythm, t));
        return setOf(rhythm);
    }

    int over() {
        deed(overOf(rhythm));
        return setOf(rhythm);
    }

    int behind() {
        deed(behindOf(rhythm));
        return setOf(rhythm);
    }

    int stretch(int m) {
        if (m < 1 || m > 23) {
            return OUTSIDE;
        }
        int n = rhythm.length();
        char[] then = new char[n];
        Arrays.fill(then, '?');
        for (int i = 0; i < n; i++) {
            if (then[i * m % n] != '?') {
                return NOT;
            }
            then[i * m % n] = rhythm.charAt(i);
        }
        deed(new String(then));
        return setOf(rhythm);
    }

    int twice() {
        if (rhythm.length() > 12) {
            return FULL;
        }
        deed(rhythm + rhythm);
        return rhythm.length();
    }

    int cycle(int n) {
        if (n < 1 || n > 24) {
            return OUTSIDE;
        }
        deed((rhythm + "0".repeat(24)).substring(0, n));
        return ones(rhythm);
    }

    private int draw(int n) {
        seed = (seed * 1103515245L + 12345L) % 2147483648L;
        return (int) (seed / 65536 % n);
    }

    int drift(int n) {
        if (n < 1 || n > 30) {
            return OUTSIDE;
        }
        for (int i = 0; i < n; i++) {
            int kind = draw(8);
            if (kind < 5) {
                strike(draw(rhythm.length()));
            } else if (kind == 5) {
                turn(draw(rhythm.length()));
            } else if (kind == 6) {
                over();
            } else {
                behind();
            }
        }
        return setOf(rhythm);
    }

    int undo(int n) {
        if (n < 1 || n > 30) {
            return OUTSIDE;
        }
        if (n > past.size()) {
            return NOT;
        }
        for (int i = 0; i < n; i++) {
            rhythm = past.remove(past.size() - 1);
        }
        return rhythm.length();
    }

    int hear(int beat, boolean struck) {
        if (beat < 0 || beat >= rhythm.length()) {
            return UNKNOWN;
        }
        if (heardBeats.size() >= 8) {
            return FULL;
        }
        heardBeats.add(beat);
        heardStruck.add(struck);
        return heardBeats.size();
    }

    private boolean fits(int t) {
        for (int i = 0; i < heardBeats.size(); i++) {
            int beat = heardBeats.get(i);
            if (beat >= rhythm.length() || on(moved(rhythm, t), beat) != heardStruck.get(i)) {
                return false;
            }
        }
        return true;
    }

    int moves() {
        int set = 0;
        for (int t = 0; t < rhythm.length(); t++) {
            set |= fits(t) ? 1 << t : 0;
        }
        return set;
    }

    int listen() {
        int best = NONE;
        int bestPart = 100;
        for (int beat = 0; beat < rhythm.length(); beat++) {
            int struck = 0;
            int not = 0;
            for (int t = 0; t < rhythm.length(); t++) {
                if (fits(t) && on(moved(rhythm, t), beat)) {
                    struck++;
                } else if (fits(t)) {
                    not++;
                }
            }
            if (struck > 0 && not > 0 && Math.max(struck, not) < bestPart) {
                best = beat;
                bestPart = Math.max(struck, not);
            }
        }
        return best;
    }

    int forget() {
        int had = heardBeats.size();
        heardBeats.clear();
        heardStruck.clear();
        return had;
    }

    int seed(int v) {
        if (v < 0) {
            return OUTSIDE;
        }
        int was = (int) seed;
        seed = v;
        return was;
    }

    int keep(int i) {
        if (i < 0 || i > 1) {
            return UNKNOWN;
        }
        keptRhythms[i] = rhythm;
        keptSeeds[i] = seed;
        past.clear();
        return 1;
    }

    int goBack(int i) {
        if (i < 0 || i > 1) {
            return UNKNOWN;
        }
        if (keptRhythms[i] == null) {
            return NOT;
        }
        rhythm = keptRhythms[i];
        seed = keptSeeds[i];
        past.clear();
        return 1;
    }
}
