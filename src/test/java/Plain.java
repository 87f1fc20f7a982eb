import java.util.ArrayList;
import java.util.List;
import java.util.TreeMap;

/** The document's words taken one by one, without any thought of speed: every parting of every set is made. */
final class Plain {
    static final int NONE = -1;
    static final int HIDDEN = -100000000;
    private static final String LETTERS = "hrcogaunbp";
    private static final int[] LOW = {1, 0, 0, 0, 0, 0, 1, 1, 0, 0};
    private static final int[] HIGH = {99, 99, 1, 1, 99, 99, 99, 9, 99, 99};

    /** A loss: sum, hour, last hour, x, y, causes, number. */
    private final List<int[]> losses = new ArrayList<>();
    private final List<int[]> covers = new ArrayList<>();
    private final List<int[]> storms = new ArrayList<>();
    private String tape = "";

    int feed(int a, int b, int c, int d, int e) {
        StringBuilder more = new StringBuilder(tape);
        for (int n : new int[] {a, b, c, d, e}) {
            for (int k = 3; k >= 0; k--) {
                int next = n >> (8 * k) & 255;
                if (next != 0) {
                    more.append((char) next);
                }
            }
        }
        if (more.length() > 120) {
            return NONE;
        }
        tape = more.toString();
        return tape.length();
    }

    boolean end(int n) {
        if (n < 0 || n > tape.length()) {
            return false;
        }
        tape = tape.substring(0, n);
        return true;
    }

    private static boolean digit(char c) {
        return c >= '0' && c <= '9';
    }

    /** Byte by byte: 0 ahead of a letter, 1 behind it, 2 ahead of a number, 3 behind its first digit, 4 behind it. */
    private int read(int[] words) {
        int state = 0;
        int what = NONE;
        boolean first = true;
        int value = 0;
        for (int i = 0; i < tape.length(); i++) {
            char c = tape.charAt(i);
            boolean lastDigit = digit(c) && (state == 3 || i + 1 == tape.length() || !digit(tape.charAt(i + 1)));
            if (state == 0 && c != ' ') {
                what = LETTERS.indexOf(c);
                if (what < 0 || (what == 0) != first) {
                    return i;
                }
                first = false;
                state = 1;
            } else if (state == 1) {
                if (c != ' ') {
                    return i;
                }
                state = 2;
            } else if (state == 2 && c != ' ') {
                if (!digit(c)) {
                    return i;
                }
                value = c - '0';
                state = 3;
            } else if (state == 3 && digit(c)) {
                value = value * 10 + c - '0';
                state = 4;
            } else if (state == 3 || state == 4) {
                if (c == ';') {
                    state = 0;
                } else if (c == ' ') {
                    state = 4;
                } else {
                    return i;
                }
            }
            if (lastDigit && (state == 3 || state == 4)) {
                if (value < LOW[what] || value > HIGH[what]) {
                    return i;
                }
                words[what] = value;
            }
        }
        return state == 3 || state == 4 ? NONE : tape.length();
    }

    int fault() {
        return read(new int[10]);
    }

    int cover() {
        int[] words = {0, -1, 0, 0, 0, 0, 99, 9, 0, 0};
        if (read(words) != NONE || covers.size() == 6) {
            return NONE;
        }
        tape = "";
        covers.add(words);
        return covers.size() - 1;
    }

    /** HIDDEN stands for the exception here. */
    int word(int cover, int what) {
        return noCover(cover) || what < 0 || what > 9 ? HIDDEN : covers.get(cover)[what];
    }

    int loss(int sum, int hour, int later, int x, int y, int causes) {
        boolean well = sum >= 1 && sum <= 99 && hour >= 0 && hour <= 999 && later >= 0 && later <= 99
            && (long) hour + later <= 999 && x >= 0 && x <= 99 && y >= 0 && y <= 99 && causes >= 1 && causes <= 63;
        if (!well || losses.size() == 12) {
            return NONE;
        }
        losses.add(new int[] {sum, hour, hour + later, x, y, causes, 0});
        return losses.size() - 1;
    }

    private boolean noCover(int cover) {
        return cover < 0 || cover >= covers.size();
    }

    private boolean noLoss(int loss) {
        return loss < 0 || loss >= losses.size();
    }

    private boolean noSet(int set) {
        return set < 0 || set >= 1 << losses.size();
    }

    private List<Integer> members(int set) {
        List<Integer> list = new ArrayList<>();
        for (int i = 0; i < losses.size(); i++) {
            if ((set >> i & 1) == 1) {
                list.add(i);
            }
        }
        return list;
    }

    private boolean one(int[] words, List<Integer> some) {
        int causes = 63;
        for (int i : some) {
            int[] p = losses.get(i);
            causes &= p[5];
            for (int j : some) {
                int[] q = losses.get(j);
                if (p[1] - q[1] >= words[0]) {
                    return false;
                }
                double far = Math.hypot(p[3] - q[3], p[4] - q[4]);
                if (words[1] != NONE && far > words[1] + 1e-9) {
                    return false;
                }
            }
        }
        return words[2] == 0 || causes != 0;
    }

    private int low(List<Integer> some) {
        int low = 9999;
        for (int i : some) {
            low = Math.min(low, losses.get(i)[1]);
        }
        return low;
    }

    private int high(List<Integer> some) {
        int high = -1;
        for (int i : some) {
            high = Math.max(high, losses.get(i)[1]);
        }
        return high;
    }

    private int sum(List<Integer> some) {
        int sum = 0;
        for (int i : some) {
            sum += losses.get(i)[0];
        }
        return sum;
    }

    private boolean tooNear(int[] words, List<Integer> a, List<Integer> b) {
        return words[3] == 0 && high(a) + words[4] >= low(b) && high(b) + words[4] >= low(a);
    }

    private boolean lawful(int[] words, List<List<Integer>> parting) {
        for (List<Integer> h : parting) {
            if (!one(words, h)) {
                return false;
            }
        }
        for (int i = 0; i < parting.size(); i++) {
            for (int j = 0; j < i; j++) {
                if (tooNear(words, parting.get(i), parting.get(j))) {
                    return false;
                }
            }
        }
        return true;
    }

    private int lowestAt(List<Integer> some, int hour) {
        for (int i = 0; i < losses.size(); i++) {
            if (some.contains(i) && losses.get(i)[1] == hour) {
                return i;
            }
        }
        return NONE;
    }

    private int pay(int[] words, List<Integer> h) {
        return Math.min(words[6], Math.max(0, sum(h) - words[5]));
    }

    /** PAID in all, and for how many. */
    private int[] paidInAll(int[] words, List<List<Integer>> parting) {
        List<List<Integer>> row = new ArrayList<>(parting);
        row.sort((a, b) -> low(a) != low(b) ? low(a) - low(b) : lowestAt(a, low(a)) - lowestAt(b, low(b)));
        int[] answer = {0, 0};
        for (List<Integer> h : row) {
            if (pay(words, h) > 0 && answer[1] < words[7]) {
                answer[0] += pay(words, h);
                answer[1]++;
            }
        }
        return answer;
    }

    private int brought(int[] words, List<List<Integer>> parting) {
        return paidInAll(words, parting)[0] * (100 - words[8]);
    }

    private int netOf(int[] words, List<List<Integer>> parting) {
        int used = Math.min(paidInAll(words, parting)[0], words[6] * (words[7] - 1));
        return brought(words, parting) * words[6] - 100 * words[9] * used;
    }

    private static void partings(List<Integer> left, int at, List<List<Integer>> now, List<List<List<Integer>>> all) {
        if (at == left.size()) {
            List<List<Integer>> copy = new ArrayList<>();
            for (List<Integer> h : now) {
                copy.add(new ArrayList<>(h));
            }
            all.add(copy);
            return;
        }
        for (int k = 0; k < now.size(); k++) {
            now.get(k).add(left.get(at));
            partings(left, at + 1, now, all);
            now.get(k).remove(now.get(k).size() - 1);
        }
        List<Integer> fresh = new ArrayList<>();
        fresh.add(left.get(at));
        now.add(fresh);
        partings(left, at + 1, now, all);
        now.remove(now.size() - 1);
    }

    /**
     * Twelve losses have four million partings. Where happenings stand apart, one that has two losses has all between
     * them, so that above eight losses only the ways to cut their row by hours are made.
     */
    private List<List<List<Integer>>> everyParting(List<Integer> some, boolean apart) {
        List<List<List<Integer>>> all = new ArrayList<>();
        if (!apart || some.size() <= 8) {
            partings(some, 0, new ArrayList<>(), all);
            return all;
        }
        List<Integer> byHour = new ArrayList<>(some);
        byHour.sort((a, b) -> losses.get(a)[1] - losses.get(b)[1]);
        for (int cuts = 0; cuts < 1 << (some.size() - 1); cuts++) {
            List<List<Integer>> parting = new ArrayList<>();
            for (int i = 0; i < byHour.size(); i++) {
                if (i == 0 || (cuts >> (i - 1) & 1) == 1) {
                    parting.add(new ArrayList<>());
                }
                parting.get(parting.size() - 1).add(byHour.get(i));
            }
            all.add(parting);
        }
        return all;
    }

    private static boolean told(int[] words, int set) {
        return words[3] == 0 || Integer.bitCount(set) <= 8;
    }

    /** null: not told; else all LAWFUL ones. */
    private List<List<List<Integer>>> lawfulOnes(int[] words, int set) {
        if (!told(words, set)) {
            return null;
        }
        List<List<List<Integer>>> all = everyParting(members(set), words[3] == 0);
        all.removeIf(p -> !lawful(words, p));
        return all;
    }

    int may(int cover, int set) {
        if (noCover(cover) || noSet(set) || set == 0) {
            return NONE;
        }
        return one(covers.get(cover), members(set)) ? 1 : 0;
    }

    int paid(int cover, int set) {
        if (noCover(cover) || noSet(set) || set == 0) {
            return NONE;
        }
        return pay(covers.get(cover), members(set));
    }

    boolean put(int loss, int number) {
        if (noLoss(loss) || number < 0 || number > 15) {
            return false;
        }
        losses.get(loss)[6] = number;
        return true;
    }

    private List<List<Integer>> toldParting() {
        TreeMap<Integer, List<Integer>> byNumber = new TreeMap<>();
        for (int i = 0; i < losses.size(); i++) {
            byNumber.computeIfAbsent(losses.get(i)[6], k -> new ArrayList<>()).add(i);
        }
        return new ArrayList<>(byNumber.values());
    }

    private List<Integer> happening(int loss) {
        for (List<Integer> h : toldParting()) {
            if (h.contains(loss)) {
                return h;
            }
        }
        return null;
    }

    int judge(int cover) {
        if (noCover(cover)) {
            return NONE;
        }
        int[] words = covers.get(cover);
        for (int i = 0; i < losses.size(); i++) {
            for (int j = i + 1; j < losses.size(); j++) {
                boolean bars = happening(i).contains(j)
                    ? !one(words, List.of(i, j)) : tooNear(words, happening(i), happening(j));
                if (bars) {
                    return 16 * i + j;
                }
            }
        }
        List<List<Integer>> parting = toldParting();
        parting.sort((a, b) -> a.get(0) - b.get(0));
        for (List<Integer> h : parting) {
            if (!one(words, h)) {
                return 16 * h.get(0) + h.get(1);
            }
        }
        return NONE;
    }

    int brings(int cover, int what) {
        if (noCover(cover) || what < 0 || what > 3 || !lawful(covers.get(cover), toldParting())) {
            return HIDDEN;
        }
        int[] words = covers.get(cover);
        List<List<Integer>> parting = toldParting();
        return what == 0 ? brought(words, parting) : what == 1 ? netOf(words, parting)
            : what == 2 ? parting.size() : paidInAll(words, parting)[1];
    }

    int year(int loss, int e, boolean more) {
        if (noLoss(loss) || e < 0 || e > 999) {
            return NONE;
        }
        List<Integer> h = happening(loss);
        int before = 0;
        int after = 0;
        for (int i : h) {
            if (losses.get(i)[1] < e) {
                before += losses.get(i)[0];
            } else {
                after += losses.get(i)[0];
            }
        }
        return (more ? before >= after : low(h) < e) ? 0 : 1;
    }

    /** MOST, LEAST, FEWEST for each, NET MOST, what that one BRINGS; null: none. */
    private int[] bounds(int[] words, int set) {
        List<List<List<Integer>>> all = lawfulOnes(words, set);
        if (all == null || all.isEmpty()) {
            return null;
        }
        int[] b = {Integer.MIN_VALUE, Integer.MAX_VALUE, 99, 99, Integer.MIN_VALUE, Integer.MIN_VALUE};
        for (List<List<Integer>> p : all) {
            b[0] = Math.max(b[0], brought(words, p));
            b[1] = Math.min(b[1], brought(words, p));
            b[4] = Math.max(b[4], netOf(words, p));
        }
        for (List<List<Integer>> p : all) {
            b[2] = brought(words, p) == b[0] ? Math.min(b[2], p.size()) : b[2];
            b[3] = brought(words, p) == b[1] ? Math.min(b[3], p.size()) : b[3];
            b[5] = netOf(words, p) == b[4] ? Math.max(b[5], brought(words, p)) : b[5];
        }
        return b;
    }

    private int mostOf(int[] words, int set) {
        int[] b = bounds(words, set);
        return b == null ? HIDDEN : b[0];
    }

    int most(int cover, int set, int what) {
        if (noCover(cover) || noSet(set) || what < 0 || what > 3) {
            return HIDDEN;
        }
        int[] b = bounds(covers.get(cover), set);
        return b == null ? HIDDEN : b[what];
    }

    int net(int cover, int set, int what) {
        if (noCover(cover) || noSet(set) || what < 0 || what > 1) {
            return HIDDEN;
        }
        int[] b = bounds(covers.get(cover), set);
        return b == null ? HIDDEN : b[4 + what];
    }

    private int all() {
        return (1 << losses.size()) - 1;
    }

    int ends(int cover, int loss, int what) {
        if (noCover(cover) || noLoss(loss) || what < 0 || what > 1) {
            return HIDDEN;
        }
        int[] it = losses.get(loss);
        int kept = it[1];
        List<Integer> found = new ArrayList<>();
        for (int hour = kept; hour <= it[2]; hour++) {
            it[1] = hour;
            int most = mostOf(covers.get(cover), all());
            if (most != HIDDEN) {
                found.add(most);
            }
        }
        it[1] = kept;
        found.sort(null);
        return found.isEmpty() ? HIDDEN : found.get(what == 0 ? 0 : found.size() - 1);
    }

    /** How many hours later a loss may have been (0, if there is none such): what ends costs here. */
    int later(int loss) {
        return noLoss(loss) ? 0 : losses.get(loss)[2] - losses.get(loss)[1];
    }

    int hangs(int cover) {
        if (noCover(cover)) {
            return NONE;
        }
        int best = NONE;
        int least = Integer.MAX_VALUE;
        for (int i = 0; i < losses.size(); i++) {
            int most = mostOf(covers.get(cover), all() - (1 << i));
            if (most != HIDDEN && most < least) {
                best = i;
                least = most;
            }
        }
        return best;
    }

    int told(int cover, int loss, int cause) {
        if (noCover(cover) || noLoss(loss) || cause < 0 || cause > 5 || (losses.get(loss)[5] >> cause & 1) == 0) {
            return HIDDEN;
        }
        int kept = losses.get(loss)[5];
        losses.get(loss)[5] = 1 << cause;
        int most = mostOf(covers.get(cover), all());
        losses.get(loss)[5] = kept;
        return most;
    }

    int layers(int set, boolean one) {
        if (set <= 0 || set >= 1 << covers.size()) {
            return HIDDEN;
        }
        List<int[]> taken = new ArrayList<>();
        for (int i = 0; i < covers.size(); i++) {
            if ((set >> i & 1) == 1) {
                taken.add(covers.get(i));
            }
        }
        return one ? byOne(taken) : byOwn(taken);
    }

    private int byOwn(List<int[]> taken) {
        int sum = 0;
        for (int[] words : taken) {
            int most = mostOf(words, all());
            if (most == HIDDEN) {
                return HIDDEN;
            }
            sum += most;
        }
        return sum;
    }

    private int byOne(List<int[]> taken) {
        boolean apart = false;
        for (int[] words : taken) {
            apart |= words[3] == 0;
        }
        if (!apart && losses.size() > 8) {
            return HIDDEN;
        }
        List<List<List<Integer>>> all = everyParting(members(all()), apart);
        int best = HIDDEN;
        for (List<List<Integer>> p : all) {
            boolean lawful = true;
            int together = 0;
            for (int[] words : taken) {
                lawful = lawful && lawful(words, p);
                together += lawful ? brought(words, p) : 0;
            }
            if (lawful) {
                best = Math.max(best, together);
            }
        }
        return best;
    }

    int nearest(int cover, int what) {
        if (noCover(cover) || what < 0 || what > 1) {
            return HIDDEN;
        }
        int hours = HIDDEN;
        int between = HIDDEN;
        for (int h = 99; h >= 1; h--) {
            int[] words = covers.get(cover).clone();
            words[0] = h;
            int[] b = bounds(words, all());
            if (b != null && (hours == HIDDEN || b[0] - b[1] <= between)) {
                hours = h;
                between = b[0] - b[1];
            }
        }
        return what == 0 ? hours : between;
    }

    int storm(int set, int weight) {
        if (noSet(set) || weight < 1 || weight > 99 || storms.size() == 12) {
            return NONE;
        }
        storms.add(new int[] {set, weight});
        return storms.size();
    }

    int mean(int cover, int what) {
        if (noCover(cover) || what < 0 || what > 2) {
            return HIDDEN;
        }
        int sum = 0;
        for (int[] storm : storms) {
            if (!told(covers.get(cover), storm[0])) {
                return HIDDEN;
            }
            int[] b = bounds(covers.get(cover), storm[0]);
            sum += what == 2 ? storm[1] : b == null ? 0 : storm[1] * b[what];
        }
        return sum;
    }

    int game(int one, int other, int what) {
        if (noCover(one) || noCover(other) || what < 0 || what > 2 || losses.isEmpty()) {
            return HIDDEN;
        }
        int[][] left = {new int[losses.size()], new int[losses.size()]};
        int[] struck = {0, 0};
        for (int c = 0; c < 2; c++) {
            for (int i = 0; i < losses.size(); i++) {
                left[c][i] = mostOf(covers.get(c == 0 ? one : other), all() - (1 << i));
                if (left[c][i] == HIDDEN) {
                    return HIDDEN;
                }
                struck[c] = left[c][i] < left[c][struck[c]] ? i : struck[c];
            }
        }
        int taken = left[1][struck[1]] > left[0][struck[0]] ? 1 : 0;
        return what == 0 ? taken : what == 1 ? left[taken][struck[taken]] : struck[taken];
    }

    boolean mend(int loss, int hour, int sum) {
        if (noLoss(loss) || hour < 0 || hour > 999 || sum < 1 || sum > 99) {
            return false;
        }
        int[] it = losses.get(loss);
        it[1] = hour;
        it[2] = Math.max(it[2], hour);
        it[0] = sum;
        return true;
    }

    int count(int what) {
        int[] counts = {covers.size(), losses.size(), storms.size(), tape.length()};
        return what < 0 || what > 3 ? NONE : counts[what];
    }
}
