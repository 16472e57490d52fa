import java.math.BigInteger;
import java.util.ArrayList;
import java.util.Arrays;
import java.util.HashMap;
import java.util.List;
import java.util.Map;
import java.util.TreeMap;
import java.util.regex.Matcher;
import java.util.regex.Pattern;

/** The document again, written as slowly and as near to its words as can be, to be asked beside the class. */
final class Oracle {
    static final int BAD = -1, STATE = -2, FULL = -3, NONE = -9, NO = -1000000;
    private static final Pattern TOKEN = Pattern.compile("[a-z]+|[0-9]+|;| +|[\\s\\S]");

    private static final class Seeker {
        int minutes;
        List<Integer> habit = new ArrayList<>();
    }

    private static final class Now implements Cloneable {
        int ring = NONE, week = 0, lot = 1;
        int[] next = new int[4], had = new int[4];
        List<int[]> seen = new ArrayList<>();

        Now copy() {
            Now n = new Now();
            n.ring = ring;
            n.week = week;
            n.lot = lot;
            n.next = next.clone();
            n.had = had.clone();
            n.seen = new ArrayList<>(seen);
            return n;
        }
    }

    private static final class Fault extends RuntimeException {
        private static final long serialVersionUID = 1L;
        final int place;

        Fault(int place) {
            this.place = place;
        }
    }

    private String text = "";
    private List<Integer> hard = new ArrayList<>();
    private List<Seeker> seekers = new ArrayList<>();
    private int law = 0;
    private Now now = new Now();
    private final Now[] images = new Now[2];
    private long trace = 0;

    // ---- the text

    int type(long v, int n) {
        if (n < 1 || n > 8) {
            return BAD;
        }
        if (text.length() + n > 200) {
            return FULL;
        }
        byte[] all = BigInteger.valueOf(v).toByteArray();
        for (int i = n - 1; i >= 0; i--) {
            int at = all.length - 1 - i;
            int b = at >= 0 ? all[at] : v < 0 ? -1 : 0;
            text += (char) (b & 255);
        }
        return text.length();
    }

    int clear() {
        int n = text.length();
        text = "";
        return n;
    }

    int town() {
        List<String> tokens = new ArrayList<>();
        List<Integer> starts = new ArrayList<>();
        Matcher m = TOKEN.matcher(text);
        while (m.find()) {
            if (!m.group().startsWith(" ")) {
                tokens.add(m.group());
                starts.add(m.start());
            }
        }
        starts.add(text.length());
        List<Integer> toldHard = new ArrayList<>();
        List<Seeker> toldSeekers = new ArrayList<>();
        int toldLaw = -1, toldRing = -1, items = 0, i = 0;
        try {
            while (i < tokens.size()) {
                String word = tokens.get(i);
                int at = starts.get(i);
                i++;
                if (word.equals("place") && toldHard.size() < 6) {
                    toldHard.add(number(tokens, starts, i++, 1, 9));
                } else if (word.equals("seeker") && toldSeekers.size() < 4) {
                    Seeker s = new Seeker();
                    s.minutes = number(tokens, starts, i++, 0, 30);
                    s.habit.add(number(tokens, starts, i++, 0, toldHard.size() - 1));
                    while (i < tokens.size() && !tokens.get(i).equals(";")) {
                        int most = s.habit.size() < 5 ? toldHard.size() - 1 : -1;
                        s.habit.add(number(tokens, starts, i++, 0, most));
                    }
                    toldSeekers.add(s);
                } else if (word.equals("ring") && toldRing < 0) {
                    toldRing = number(tokens, starts, i++, 0, toldHard.size() - 1);
                } else if (word.equals("law") && toldLaw < 0) {
                    toldLaw = number(tokens, starts, i++, 0, 2);
                } else {
                    throw new Fault(at);
                }
                if (i >= tokens.size() || !tokens.get(i).equals(";")) {
                    throw new Fault(starts.get(i));
                }
                i++;
                items++;
            }
        } catch (Fault f) {
            return -10 - f.place;
        }
        hard = toldHard;
        seekers = toldSeekers;
        law = Math.max(0, toldLaw);
        int lot = now.lot;
        now = new Now();
        now.lot = lot;
        now.ring = hard.isEmpty() ? NONE : Math.max(0, toldRing);
        images[0] = null;
        images[1] = null;
        text = "";
        return items;
    }

    private static int number(List<String> tokens, List<Integer> starts, int i, int least, int most) {
        if (i >= tokens.size() || !tokens.get(i).matches("0|[1-9][0-9]?")) {
            throw new Fault(starts.get(i));
        }
        int v = Integer.parseInt(tokens.get(i));
        if (v < least || v > most) {
            throw new Fault(starts.get(i));
        }
        return v;
    }

    int place(int p, int what) {
        if (p < 0 || p >= hard.size() || what < 0 || what > 2) {
            return BAD;
        }
        int bits = 0;
        for (int q : noWorse(p)) {
            bits += 1 << q;
        }
        return what == 0 ? hard.get(p) : what == 1 ? (bits == 0 ? 1 : 0) : bits;
    }

    int seeker(int k, int what) {
        if (k < 0 || k >= seekers.size() || what < 0 || what > 3) {
            return BAD;
        }
        Seeker s = seekers.get(k);
        return new int[] {s.minutes, s.habit.size(), now.next[k], now.had[k]}[what];
    }

    int habit(int k, int i) {
        if (k < 0 || k >= seekers.size() || i < 0) {
            return BAD;
        }
        List<Integer> h = seekers.get(k).habit;
        return i >= h.size() ? -5 : h.get(i);
    }

    // ---- weeks

    private List<Integer> noWorse(int p) {
        List<Integer> l = new ArrayList<>();
        for (int q = 0; q < hard.size(); q++) {
            if (q != p && hard.get(q) >= hard.get(p)) {
                l.add(q);
            }
        }
        return l;
    }

    private void hide(Now n, int byLaw) {
        List<Integer> l = new ArrayList<>(noWorse(n.ring));
        if (l.isEmpty()) {
            return;
        }
        if (byLaw == 2) {
            BigInteger x = BigInteger.valueOf(n.lot).multiply(BigInteger.valueOf(1103515245)).add(BigInteger.valueOf(12345));
            n.lot = x.intValue();
            n.ring = l.get(x.shiftRight(16).and(BigInteger.valueOf(65535)).intValue() % l.size());
        } else {
            int sign = byLaw == 0 ? 1 : -1;
            l.sort((a, b) -> hard.get(a).equals(hard.get(b)) ? a - b : sign * (hard.get(a) - hard.get(b)));
            n.ring = l.get(0);
        }
    }

    /** Whether a seeker finds the ring in his week; his habit goes on. */
    private boolean search(int k, int ring, int[] next) {
        Seeker s = seekers.get(k);
        int left = s.minutes;
        while (true) {
            int p = s.habit.get(next[k]);
            if (left < hard.get(p)) {
                return false;
            }
            left -= hard.get(p);
            next[k] = (next[k] + 1) % s.habit.size();
            if (p == ring) {
                return true;
            }
        }
    }

    private List<Integer> weekOf(Now n, int byLaw) {
        List<Integer> finders = new ArrayList<>();
        for (int k = 0; k < seekers.size(); k++) {
            if (search(k, n.ring, n.next)) {
                finders.add(k);
                n.had[k]++;
                hide(n, byLaw);
            }
        }
        n.week++;
        return finders;
    }

    int puts(int p) {
        if (p < 0 || p >= hard.size()) {
            return BAD;
        }
        int was = now.ring;
        now.ring = p;
        return was;
    }

    int looks(int k, int p) {
        if (k < 0 || k >= seekers.size() || p < 0 || p >= hard.size()) {
            return BAD;
        }
        if (p != now.ring) {
            return NONE;
        }
        now.had[k]++;
        hide(now, law);
        return now.ring;
    }

    int week() {
        return now.week == 99 || hard.isEmpty() ? STATE : weekOf(now, law).size();
    }

    int now(int what) {
        if (what < 0 || what > 3) {
            return BAD;
        }
        return new int[] {now.ring, now.week, law, Arrays.stream(now.had).sum()}[what];
    }

    int lot(int v) {
        int was = now.lot;
        now.lot = v;
        return was;
    }

    // ---- where it lies

    int lies(int p) {
        if (p < 0 || p >= hard.size()) {
            return BAD;
        }
        Now n = now.copy();
        n.ring = p;
        for (int w = 1; w <= 50; w++) {
            if (!weekOf(n, law).isEmpty()) {
                return w;
            }
        }
        return NONE;
    }

    int longest() {
        int best = NONE, most = -1;
        for (int p = 0; p < hard.size(); p++) {
            int w = lies(p) == NONE ? 1000 : lies(p);
            if (w > most) {
                most = w;
                best = p;
            }
        }
        return best;
    }

    /** Chances by (where the ring is, where habits stopped), numbers over 60 to the 10th. */
    long odds(int n, int p, int what) {
        if (n < 0 || n > 2 || p < 0 || p >= hard.size() || what < 0 || what > 1) {
            return BAD;
        }
        BigInteger whole = BigInteger.valueOf(60).pow(10);
        Map<List<Integer>, BigInteger> at = new HashMap<>();
        at.put(Arrays.asList(now.ring, now.next[0], now.next[1], now.next[2], now.next[3]), whole);
        for (int turn = 0; turn < n * seekers.size(); turn++) {
            int k = turn % seekers.size();
            Map<List<Integer>, BigInteger> then = new HashMap<>();
            for (Map.Entry<List<Integer>, BigInteger> e : at.entrySet()) {
                int ring = e.getKey().get(0);
                int[] next = {e.getKey().get(1), e.getKey().get(2), e.getKey().get(3), e.getKey().get(4)};
                List<Integer> to = search(k, ring, next) ? noWorse(ring) : new ArrayList<>();
                if (to.isEmpty()) {
                    to.add(ring);
                }
                for (int q : to) {
                    then.merge(Arrays.asList(q, next[0], next[1], next[2], next[3]),
                        e.getValue().divide(BigInteger.valueOf(to.size())), BigInteger::add);
                }
            }
            at = then;
        }
        BigInteger upper = BigInteger.ZERO;
        for (Map.Entry<List<Integer>, BigInteger> e : at.entrySet()) {
            if (e.getKey().get(0) == p) {
                upper = upper.add(e.getValue());
            }
        }
        return term(upper, whole, what);
    }

    private static long term(BigInteger upper, BigInteger lower, int what) {
        return (what == 0 ? upper : lower).divide(upper.gcd(lower)).longValueExact();
    }

    private int sum() {
        return hard.stream().mapToInt(h -> h).sum();
    }

    int lots(int p, int what) {
        if (p < 0 || p >= hard.size() || what < 0 || what > 3) {
            return BAD;
        }
        BigInteger upper = BigInteger.valueOf(what < 2 ? hard.get(p) : 1);
        return (int) term(upper, BigInteger.valueOf(sum()), what % 2);
    }

    int sweep(int what) {
        if (what < 0 || what > 2) {
            return BAD;
        }
        if (what == 0) {
            return sum();
        }
        if (hard.isEmpty()) {
            return what - 1;
        }
        return (int) term(BigInteger.valueOf(minutes(first())), BigInteger.valueOf(hard.size()), what - 1);
    }

    private int minutes(List<Integer> order) {
        int gone = 0, all = 0;
        for (int p : order) {
            gone += hard.get(p);
            all += gone;
        }
        return all;
    }

    /** Of all orders that which is best, and of several the one that is least, read from the front. */
    private List<Integer> first() {
        TreeMap<Integer, List<Integer>> best = new TreeMap<>();
        allOrders(new ArrayList<>(), best);
        return best.firstEntry().getValue();
    }

    private void allOrders(List<Integer> front, Map<Integer, List<Integer>> best) {
        if (front.size() == hard.size()) {
            best.putIfAbsent(minutes(front), new ArrayList<>(front));
        }
        for (int p = 0; p < hard.size(); p++) {
            if (!front.contains(p)) {
                front.add(p);
                allOrders(front, best);
                front.remove(front.size() - 1);
            }
        }
    }

    int order(int i) {
        return i < 0 ? BAD : i >= hard.size() ? -5 : first().get(i);
    }

    // ---- what was seen

    int saw(int week, int k, int found) {
        if (week < 0 || week >= now.week || k < 0 || k >= seekers.size() || found < 0 || found > 1) {
            return BAD;
        }
        if (now.seen.size() == 8) {
            return FULL;
        }
        now.seen.add(new int[] {week, k, found});
        return now.seen.size();
    }

    int forget() {
        int n = now.seen.size();
        now.seen.clear();
        return n;
    }

    int could(int what) {
        if (what < 0 || what > 1) {
            return BAD;
        }
        int bits = 0;
        for (int p = 0; p < hard.size(); p++) {
            Now n = new Now();
            n.ring = p;
            List<List<Integer>> finders = new ArrayList<>();
            for (int w = 0; w < now.week; w++) {
                finders.add(weekOf(n, law % 2));
            }
            boolean so = true;
            for (int[] s : now.seen) {
                so &= finders.get(s[0]).contains(s[1]) == (s[2] == 1);
            }
            if (so) {
                bits |= 1 << (what == 0 ? p : n.ring);
            }
        }
        return bits;
    }

    // ---- kinds, images

    int mark(int kind, int k) {
        if (kind < 0 || kind > 5 || k < 0 || k >= seekers.size()) {
            return NO;
        }
        int minutes = seekers.get(k).minutes;
        int had = now.had[k];
        int length = seekers.get(k).habit.size();
        trace += new long[] {1, 11, 101, 1011, 10101, 100001}[kind];
        return new int[] {minutes, minutes + had, minutes - length, (minutes + had) * 2, minutes - length + k,
            minutes + now.week}[kind];
    }

    int keep(int image) {
        if (image < 0 || image > 1) {
            return BAD;
        }
        images[image] = now.copy();
        return now.week;
    }

    int back(int image) {
        if (image < 0 || image > 1) {
            return BAD;
        }
        if (images[image] == null) {
            return STATE;
        }
        now = images[image].copy();
        return now.week;
    }

    int count(int what) {
        if (what < 0 || what > 3) {
            return BAD;
        }
        return new int[] {hard.size(), seekers.size(), now.seen.size(), text.length()}[what];
    }

    long trace() {
        return trace;
    }
}
