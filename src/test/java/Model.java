import java.math.BigInteger;
import java.util.ArrayList;
import java.util.HashMap;
import java.util.List;
import java.util.Map;

/**
 * The document followed word by word, without thought of speed or of the program's ways:
 * waves are called one by one anew for each question, and "one more" is told and undone.
 */
final class Model {
    static final int NONE = -1, BAD = -2, NOT = -3, FULL = -4;

    /** What is called at one TIME; number 0: none. */
    private record Call(int time, int number) { }

    private final List<Integer> text0 = new ArrayList<>();
    private final List<Integer> text1 = new ArrayList<>();
    private final List<int[]> slips = new ArrayList<>();
    private final List<Integer> wakes = new ArrayList<>();
    private final List<int[]> tickets = new ArrayList<>();
    private final List<int[]> heards = new ArrayList<>();
    private final int[][][] laws = new int[2][][];
    private final int[][] rows = new int[4][];
    private final int[] forms = new int[4];
    private int depth = 0;
    private int latest = 0;
    private int otherSwell = NONE;
    private int otherPeriod = 0;

    private static boolean in(int v, int least, int most) {
        return least <= v && v <= most;
    }

    private List<Integer> bytes(int text) {
        return text == 0 ? text0 : text1;
    }

    int type(int text, int b) {
        if (!in(text, 0, 1) || !in(b, 0, 255)) return BAD;
        if (bytes(text).size() == (text == 0 ? 35 : 47)) return FULL;
        bytes(text).add(b);
        laws[text] = null;
        return bytes(text).size();
    }

    int wipe(int text) {
        if (!in(text, 0, 1)) return BAD;
        int n = bytes(text).size();
        bytes(text).clear();
        laws[text] = null;
        return n;
    }

    int undo(int text) {
        if (!in(text, 0, 1)) return BAD;
        if (bytes(text).isEmpty()) return NOT;
        bytes(text).remove(bytes(text).size() - 1);
        laws[text] = null;
        return bytes(text).size();
    }

    /** Whether some well text begins with these bytes: tried by a pattern for each length. */
    private static boolean canGoOn(int text, String begin) {
        String one = text == 0 ? "[1-9](0[2-9]|[1-9][0-9])[0-9][0-9]" : "(0[1-9]|[1-9][0-9])[0-9][0-9][0-9]";
        String rest = begin;
        int most = text == 0 ? 6 : 8;
        for (int i = 0; i < most; i++) {
            if (rest.length() < 5) {
                String filled = rest + (text == 0 ? "19999" : "99999").substring(rest.length());
                return filled.matches(one);
            }
            if (!rest.substring(0, 5).matches(one)) return false;
            rest = rest.substring(5);
            if (rest.isEmpty()) return true;
            if (rest.charAt(0) != ';' || i == most - 1) return false;
            rest = rest.substring(1);
        }
        return false;
    }

    private String string(int text) {
        StringBuilder b = new StringBuilder();
        for (int v : bytes(text)) b.append((char) v);
        return b.toString();
    }

    int fault(int text) {
        if (!in(text, 0, 1)) return BAD;
        String s = string(text);
        for (int i = 1; i <= s.length(); i++) {
            if (!canGoOn(text, s.substring(0, i))) return i - 1;
        }
        return s.isEmpty() || s.length() % 6 == 5 ? NONE : s.length();
    }

    /** What a text says; kept until the text is another, for patterns are slow. */
    private int[][] entries(int text) {
        if (laws[text] == null) {
            String s = string(text);
            String[] each = fault(text) != NONE || s.isEmpty() ? new String[0] : s.split(";");
            int a = text == 0 ? 1 : 2, b = text == 0 ? 3 : 4;
            laws[text] = new int[each.length][];
            for (int i = 0; i < each.length; i++) {
                laws[text][i] = new int[] {Integer.parseInt(each[i].substring(0, a)),
                    Integer.parseInt(each[i].substring(a, b)), Integer.parseInt(each[i].substring(b))};
            }
        }
        return laws[text];
    }

    private int swells() {
        return entries(0).length;
    }

    int swell(int swell, int what) {
        if (!in(swell, 0, swells() - 1) || !in(what, 0, 2)) return BAD;
        if (what == 1 && swell == otherSwell) return otherPeriod;
        return entries(0)[swell][what];
    }

    int find(int find, int what) {
        if (!in(find, 0, entries(1).length - 1) || !in(what, 0, 2)) return BAD;
        return entries(1)[find][what];
    }

    int depth(int v) {
        if (!in(v, 0, 55)) return BAD;
        int was = depth;
        depth = v;
        return was;
    }

    int slip(int k, int many) {
        if (!in(k, 1, 240) || !in(many, 1, 11)) return BAD;
        if (slips.size() == 12) return FULL;
        slips.add(new int[] {k, many});
        return slips.size();
    }

    int wake(int time) {
        if (!in(time, 0, 239)) return BAD;
        if (wakes.size() == 8) return FULL;
        wakes.add(time);
        return wakes.size();
    }

    int ticket(int holder, int number) {
        if (!in(holder, 0, 7) || !in(number, 1, 400)) return BAD;
        if (tickets.size() == 12) return FULL;
        tickets.add(new int[] {holder, number});
        return tickets.size();
    }

    int back(int what) {
        if (!in(what, 0, 2)) return BAD;
        List<?> list = what == 0 ? slips : what == 1 ? wakes : tickets;
        if (list.isEmpty()) return NOT;
        list.remove(list.size() - 1);
        return list.size();
    }

    int read(int s) {
        if (!in(s, 0, 3)) return BAD;
        if (rows[s] == null) return finding(1);
        int n = 0;
        while (2 * n + 1 < rows[s].length && ticket(rows[s][2 * n], rows[s][2 * n + 1]) > 0) n++;
        return n;
    }

    /** The CRESTS of all SWELLS at each TIME up to 239: how high, how many. */
    private int[][] crests() {
        int[][] at = new int[240][2];
        for (int i = 0; i < swells(); i++) {
            int height = swell(i, 0);
            int period = swell(i, 1);
            for (int time = swell(i, 2); time < 240; time += period) {
                at[time][0] += height;
                at[time][1]++;
            }
        }
        return at;
    }

    private List<Call> calls() {
        List<Call> calls = new ArrayList<>();
        int[][] crests = crests();
        int number = 0;
        for (int time = 0; time < 240; time++) {
            if (crests[time][0] >= 1 && crests[time][0] >= depth && !wakes.contains(time)) {
                int k = calls.size() + 1;
                for (int[] slip : slips) {
                    if (slip[0] == k) number += slip[1];
                }
                number++;
                calls.add(new Call(time, number));
            }
        }
        return calls;
    }

    int high(int time) {
        return in(time, 0, 239) ? crests()[time][0] : BAD;
    }

    private int broken(int bar) {
        int n = 0;
        for (int[] c : crests()) {
            if (c[0] >= 1 && c[0] >= bar) n++;
        }
        return n;
    }

    int wave(int time, int what) {
        if (!in(time, 0, 239) || !in(what, 0, 2)) return BAD;
        int[] c = crests()[time];
        if (what == 0) return c[0] >= 1 && c[0] >= depth ? 1 : 0;
        if (what == 2) return c[1] >= 2 ? 1 : 0;
        for (Call call : calls()) {
            if (call.time == time) return call.number;
        }
        return 0;
    }

    int when(int number) {
        if (!in(number, 1, 400)) return BAD;
        for (Call call : calls()) {
            if (call.number == number) return call.time;
        }
        return NONE;
    }

    int called(int from, int to) {
        if (!in(from, 0, 239) || !in(to, 0, 239)) return BAD;
        int n = 0;
        for (Call call : calls()) {
            if (from <= call.time && call.time <= to) n++;
        }
        return n;
    }

    int brings(int number) {
        if (!in(number, 1, 400)) return BAD;
        int sum = 0;
        for (int i = 0; i < entries(1).length; i++) {
            if (number % find(i, 0) == find(i, 1)) sum += find(i, 2);
        }
        return sum;
    }

    /** Who holds each NUMBER: the first told one of it. */
    private Map<Integer, Integer> holders() {
        Map<Integer, Integer> of = new HashMap<>();
        for (int[] t : tickets) of.putIfAbsent(t[1], t[0]);
        return of;
    }

    /** What all WAVES bring to a HOLDER, wave by wave. */
    private int claims(int holder, List<Call> calls, int[][] crests, Map<Integer, Integer> valued) {
        Map<Integer, Integer> of = holders();
        int sum = 0;
        for (Call call : calls) {
            int all = valued.get(call.number);
            boolean twice = crests[call.time][1] >= 2;
            if (of.getOrDefault(call.number, NONE) == holder) sum += twice ? all / 2 : all;
            if (twice && of.getOrDefault(call.number + 1, NONE) == holder) sum += all / 2;
        }
        return sum;
    }

    private Map<Integer, Integer> valued(List<Call> calls) {
        Map<Integer, Integer> v = new HashMap<>();
        for (Call call : calls) v.put(call.number, brings(call.number));
        return v;
    }

    int claims(int holder) {
        if (!in(holder, 0, 7)) return BAD;
        List<Call> calls = calls();
        return claims(holder, calls, crests(), valued(calls));
    }

    int good(int ticket) {
        if (!in(ticket, 0, tickets.size() - 1)) return BAD;
        int number = tickets.get(ticket)[1];
        for (int i = 0; i < ticket; i++) {
            if (tickets.get(i)[1] == number) return 0;
        }
        return when(number) == NONE ? 0 : 1;
    }

    int agree(int a, int b, int from, int what) {
        if (!in(a, 0, swells() - 1) || !in(b, 0, swells() - 1) || a == b) return BAD;
        if (!in(from, 0, 239) || !in(what, 0, 1)) return BAD;
        int pa = swell(a, 1), pb = swell(b, 1), sa = swell(a, 2), sb = swell(b, 2);
        int first = NONE;
        for (int time = from; time < 30000; time++) {
            if (time >= sa && time >= sb && (time - sa) % pa == 0 && (time - sb) % pb == 0) {
                if (first != NONE) return what == 0 ? first : time - first;
                first = time;
            }
        }
        return NONE;
    }

    int run(int n, int what) {
        if (!in(n, 1, 9) || !in(what, 0, 1)) return BAD;
        List<Call> calls = calls();
        Map<Integer, Integer> v = valued(calls);
        int last = calls.isEmpty() ? 0 : calls.get(calls.size() - 1).number;
        int best = NONE, most = NONE;
        for (int first = 1; first <= last - n + 1; first++) {
            int sum = 0;
            for (int i = 0; i < n; i++) sum += v.getOrDefault(first + i, 0);
            if (sum > most) {
                most = sum;
                best = first;
            }
        }
        return what == 0 ? best : most;
    }

    int bar(int many) {
        if (!in(many, 0, 240)) return BAD;
        int bar = 0;
        while (broken(bar) > many) bar++;
        return bar;
    }

    int earn(int holder, int what) {
        if (!in(holder, 0, 7) || !in(what, 0, 1)) return BAD;
        List<Call> calls = calls();
        int[][] crests = crests();
        Map<Integer, Integer> v = valued(calls);
        int most = claims(holder, calls, crests, v);
        int best = NONE;
        for (int number = 1; number <= 400; number++) {
            tickets.add(new int[] {holder, number});
            int has = claims(holder, calls, crests, v);
            tickets.remove(tickets.size() - 1);
            if (has > most) {
                most = has;
                best = number;
            }
        }
        return what == 0 || best == NONE ? best : most;
    }

    int heard(int time, int number) {
        if (!in(time, 0, 239) || !in(number, 0, 400)) return BAD;
        if (heards.size() == 8) return FULL;
        heards.add(new int[] {time, number});
        return heards.size();
    }

    int forget() {
        int n = heards.size();
        heards.clear();
        return n;
    }

    private boolean comesOutSo() {
        int[] numbers = new int[240];
        for (Call call : calls()) numbers[call.time] = call.number;
        for (int[] h : heards) {
            if (numbers[h[0]] != h[1]) return false;
        }
        return true;
    }

    int skipped(int many) {
        if (!in(many, 1, 11)) return BAD;
        int bits = 0;
        for (int k = 1; k <= 31; k++) {
            slips.add(new int[] {k, many});
            if (comesOutSo()) bits |= 1 << k - 1;
            slips.remove(slips.size() - 1);
        }
        return bits;
    }

    private static int told(List<Integer> fit, int i) {
        return i == NONE ? fit.size() : i < fit.size() ? fit.get(i) : NONE;
    }

    int voids(int i) {
        if (!in(i, -1, 239)) return BAD;
        List<Integer> fit = new ArrayList<>();
        for (int time = 0; time < 240; time++) {
            wakes.add(time);
            if (comesOutSo()) fit.add(time);
            wakes.remove(wakes.size() - 1);
        }
        return told(fit, i);
    }

    int often(int swell, int i) {
        if (!in(swell, 0, swells() - 1) || !in(i, -1, 97)) return BAD;
        List<Integer> fit = new ArrayList<>();
        otherSwell = swell;
        for (otherPeriod = 2; otherPeriod <= 99; otherPeriod++) {
            if (comesOutSo()) fit.add(otherPeriod);
        }
        otherSwell = NONE;
        return told(fit, i);
    }

    /** The chance of a NUMBER still to come, by 16 to the left-th, from a NUMBER called on. */
    private static BigInteger chance(int c, int now, int number, int left) {
        if (now == number) return BigInteger.valueOf(16).pow(left);
        if (now > number || left == 0) return BigInteger.ZERO;
        return chance(c, now + 1, number, left - 1).multiply(BigInteger.valueOf(16 - c))
            .add(chance(c, now + 2, number, left - 1).multiply(BigInteger.valueOf(c)));
    }

    long hoarse(int c, int number, int what) {
        if (!in(c, 0, 16) || !in(number, 1, 12) || !in(what, 0, 1)) return Long.MIN_VALUE + 2;
        int waves = Math.min(calls().size(), 20);
        BigInteger above = chance(c, 0, number, waves);
        BigInteger below = BigInteger.valueOf(16).pow(waves);
        BigInteger shared = above.gcd(below);
        return (what == 0 ? above : below).divide(shared).longValueExact();
    }

    int storm(int seed, int n, int what) {
        if (!in(n, 1, 99) || !in(what, 0, 1)) return BAD;
        int[] numbers = new int[240];
        for (Call call : calls()) numbers[call.time] = call.number;
        int sum = 0, many = 0;
        BigInteger lot = BigInteger.valueOf(seed);
        BigInteger all = BigInteger.ONE.shiftLeft(32);
        for (int i = 0; i < n; i++) {
            lot = lot.multiply(BigInteger.valueOf(1103515245)).add(BigInteger.valueOf(12345)).mod(all);
            int time = lot.shiftRight(16).mod(BigInteger.valueOf(240)).intValue();
            if (numbers[time] > 0) {
                sum += brings(numbers[time]);
                many++;
            }
        }
        return what == 0 ? sum : many;
    }

    private int finding(int number) {
        latest = number;
        return -10 - number;
    }

    private static int cut(int form, int v) {
        int bits = form == 0 ? 24 : form == 1 ? 16 : 0;
        return v << bits >> bits;
    }

    int sheet(int s, int form, int n) {
        if (!in(s, 0, 3) || !in(form, 0, 2) || n > 48) return BAD;
        if (n < 0) return finding(5);
        rows[s] = new int[n];
        forms[s] = form;
        return n;
    }

    int lose(int s) {
        if (!in(s, 0, 3)) return BAD;
        if (rows[s] == null) return finding(1);
        int n = rows[s].length;
        rows[s] = null;
        return n;
    }

    private int refusal(int s, int form, int i) {
        if (!in(s, 0, 3) || !in(form, 0, 2)) return BAD;
        if (rows[s] == null) return finding(1);
        if (forms[s] != form) return finding(3);
        return in(i, 0, rows[s].length - 1) ? 0 : finding(2);
    }

    int put(int s, int form, int i, int v) {
        int refusal = refusal(s, form, i);
        if (refusal != 0) return refusal;
        rows[s][i] = cut(form, v);
        return 1;
    }

    int get(int s, int form, int i) {
        return refusal(s, form, i) != 0 ? Integer.MIN_VALUE : rows[s][i];
    }

    int copy(int s, int i, int t, int j, int n) {
        if (!in(s, 0, 3) || !in(t, 0, 3)) return BAD;
        if (rows[s] == null || rows[t] == null) return finding(1);
        if (forms[s] != forms[t]) return finding(4);
        if (i < 0 || j < 0 || n < 0) return finding(2);
        if ((long) i + n > rows[s].length || (long) j + n > rows[t].length) return finding(2);
        int[] were = rows[s].clone();
        for (int x = 0; x < n; x++) rows[t][j + x] = were[i + x];
        return 1;
    }

    int write(int time, int s) {
        if (!in(time, 0, 239) || !in(s, 0, 3)) return BAD;
        if (rows[s] == null) return finding(1);
        int n = 0;
        while (n < rows[s].length && time + n < 240) {
            rows[s][n] = cut(forms[s], wave(time + n, 1));
            n++;
        }
        return n;
    }

    int count(int what) {
        List<Call> calls = calls();
        int last = calls.isEmpty() ? 0 : calls.get(calls.size() - 1).number;
        int[] all = {swells(), entries(1).length, text0.size(), text1.size(), broken(depth),
            tickets.size(), last, heards.size(), latest};
        return in(what, 0, 8) ? all[what] : BAD;
    }

    private static long fold(long h, long... each) {
        for (long v : each) h = 31 * h + v;
        return h;
    }

    long digest() {
        long h = 17;
        for (int i = 0; i <= 7; i++) h = fold(h, count(i));
        h = fold(h, fault(0), fault(1));
        for (int i = 0; i < swells(); i++) {
            h = fold(h, swell(i, 0), swell(i, 1), swell(i, 2), agree(0, i, 5, 0), agree(0, i, 5, 1));
            h = fold(h, often(i, NONE), often(i, 0));
        }
        for (int i = 0; i < entries(1).length; i++) h = fold(h, find(i, 0), find(i, 1), find(i, 2));
        for (int t : new int[] {0, 1, 60, 239}) {
            h = fold(h, high(t), wave(t, 0), wave(t, 1), wave(t, 2), called(0, t));
        }
        for (int n : new int[] {1, 7, 40}) h = fold(h, when(n), brings(n));
        for (int i = 0; i < 8; i++) h = fold(h, claims(i), earn(i, 0), earn(i, 1));
        for (int i = 0; i < tickets.size(); i++) h = fold(h, good(i));
        h = fold(h, run(3, 0), run(3, 1), bar(9), skipped(1), voids(NONE), voids(0));
        return fold(h, hoarse(5, 4, 0), hoarse(5, 4, 1), storm(7, 30, 0), storm(7, 30, 1));
    }
}
