import java.math.BigInteger;
import java.util.ArrayList;
import java.util.Collections;
import java.util.HashMap;
import java.util.List;
import java.util.Map;
import java.util.TreeMap;
import java.util.regex.Matcher;
import java.util.regex.Pattern;

/** What the document says, word by word and without a thought of speed: ModelTest lays the class beside it. */
final class Model {
    private static final Pattern TEXT = Pattern.compile("(rNIII;|wNII;|bNII;|BNNNI;|hNIII;|sNNIIII(dI)?;|eNI-?I;|jIIII;|oII;|mI;)*");
    private static final Pattern TOKEN = Pattern.compile("[a-z]+|[0-9]+|[;-]|[^\\t\\n\\r ]", Pattern.DOTALL);
    private static final Map<String, Character> WORDS = Map.ofEntries(Map.entry("reg", 'r'), Map.entry("walsh", 'w'),
        Map.entry("bits", 'b'), Map.entry("both", 'B'), Map.entry("hop", 'h'), Map.entry("send", 's'), Map.entry("echo", 'e'),
        Map.entry("jam", 'j'), Map.entry("noise", 'o'), Map.entry("samples", 'm'), Map.entry("drift", 'd'));
    private static final int[] PRIMES = {2, 3, 5, 7, 11, 13, 17, 19, 23, 29, 31};

    private static final class Sender {
        int[] code;
        int amplitude, delay, tone, data, drift;
        List<int[]> echoes = new ArrayList<>();

        int delay(int i) {
            return drift == 0 ? delay : delay + i / (drift * code.length);
        }

        int period(int i) {
            return i < delay(i) ? -1 : (i - delay(i)) / code.length;
        }

        int turn(int i) {
            return tone * (i / 8) % 4;
        }

        int chip(int i) {
            return code[(i - delay(i)) % code.length];
        }

        int bit(int p) {
            return data >> p % 14 & 1;
        }

        /** The WAVE at a sample with a bit for each PERIOD (null: DATA). */
        long[] wave(int i, Map<Integer, Integer> bits) {
            if (i < 0 || i < delay(i)) return new long[] {0, 0};
            int bit = bits == null ? bit(period(i)) : bits.get(period(i));
            long v = chip(i) * (bit == 1 ? -1 : 1);
            switch (turn(i)) {
                case 0: return new long[] {v, 0};
                case 1: return new long[] {0, v};
                case 2: return new long[] {-v, 0};
                default: return new long[] {0, -v};
            }
        }

        /** With its ECHOES and AMPLITUDES. */
        long[] all(int i, Map<Integer, Integer> bits) {
            long[] w = wave(i, bits);
            long[] sum = {w[0] * amplitude, w[1] * amplitude};
            for (int[] echo : echoes) {
                long[] e = wave(i - echo[0], bits);
                sum[0] += e[0] * echo[1];
                sum[1] += e[1] * echo[1];
            }
            return sum;
        }
    }

    private static final class Told {
        List<int[]> codes = new ArrayList<>();
        List<int[]> hops = new ArrayList<>();
        List<Sender> senders = new ArrayList<>();
        List<int[]> jams = new ArrayList<>();
        int echoes = 0, samples = 256, most = 0, seed = 0;
    }

    private final StringBuilder tape = new StringBuilder();
    private Told told = new Told();
    private long[][] air = new long[256][2];
    private final long[][][] slots = new long[3][][];
    private int place = -1;

    int feed(int a, int b, int c, int d, int e) {
        if (tape.length() + 20 > 2000) return -1;
        for (int x : new int[] {a, b, c, d, e}) {
            for (int k = 3; k >= 0; k--) tape.append((char) (x >>> 8 * k & 255));
        }
        return tape.length();
    }

    int back(int n) {
        if (n < 0 || n > tape.length()) return -1;
        tape.setLength(tape.length() - n);
        return tape.length();
    }

    // ---- reading

    private static final class Fault extends Exception {
        private static final long serialVersionUID = 1;
        final int number, place;

        Fault(int number, int place) {
            this.number = number;
            this.place = place;
        }
    }

    private record Token(char kind, String text, int place) {
        int number() {
            return Integer.parseInt(text);
        }
    }

    int read() {
        String text = tape.toString();
        tape.setLength(0);
        try {
            Told next = tell(tokens(text));
            told = next;
            anew();
            slots[0] = slots[1] = slots[2] = null;
            place = -1;
            return 0;
        } catch (Fault f) {
            place = f.place;
            return f.number;
        }
    }

    private static List<Token> tokens(String text) throws Fault {
        List<Token> tokens = new ArrayList<>();
        StringBuilder shape = new StringBuilder();
        Map<Character, Integer> room = new HashMap<>(Map.of('c', 8, 'h', 6, 's', 6, 'e', 6, 'j', 4));
        Matcher m = TOKEN.matcher(text);
        boolean opens = true;
        while (m.find()) {
            String t = m.group();
            char kind = kindOf(t);
            shape.append(kind);
            Matcher fit = TEXT.matcher(shape);
            if (kind == '?' || !fit.matches() && !fit.hitEnd()) throw new Fault(1, m.start());
            if (tokens.size() == 400) throw new Fault(2, m.start());
            if (opens) {
                char group = "rwbB".indexOf(kind) >= 0 ? 'c' : kind;
                int left = room.getOrDefault(group, 1000);
                if (left == 0) throw new Fault(2, m.start());
                room.put(group, left - 1);
            }
            opens = kind == ';';
            tokens.add(new Token(kind, t, m.start()));
        }
        if (!TEXT.matcher(shape).matches()) throw new Fault(1, text.length());
        return tokens;
    }

    private static char kindOf(String t) {
        if (WORDS.containsKey(t)) return WORDS.get(t);
        if (t.matches("[a-z]{1,8}")) return 'N';
        if (t.matches("[0-9]{1,4}")) return 'I';
        return t.equals(";") || t.equals("-") ? t.charAt(0) : '?';
    }

    private static int in(Token t, int least, int most) throws Fault {
        if (t.number() < least || t.number() > most) throw new Fault(5, t.place);
        return t.number();
    }

    private static Told tell(List<Token> tokens) throws Fault {
        Told told = new Told();
        Map<String, Object> names = new HashMap<>();
        int at = 0;
        while (at < tokens.size()) {
            int end = at;
            while (tokens.get(end).kind != ';') end++;
            List<Token> t = tokens.subList(at + 1, end);
            char kind = tokens.get(at).kind;
            if ("rwbBhs".indexOf(kind) >= 0 && names.containsKey(t.get(0).text)) throw new Fault(3, t.get(0).place);
            Object made = null;
            switch (kind) {
                case 'r': told.codes.add((int[]) (made = reg(t))); break;
                case 'w': told.codes.add((int[]) (made = walsh(t))); break;
                case 'b': told.codes.add((int[]) (made = bits(t))); break;
                case 'B': told.codes.add((int[]) (made = both(t, told, names))); break;
                case 'h': {
                    int p = t.get(1).number();
                    boolean prime = false;
                    for (int q : PRIMES) prime |= p == q;
                    if (!prime) throw new Fault(5, t.get(1).place);
                    int[] hop = {p, in(t.get(2), 0, p - 1), in(t.get(3), 0, p - 1)};
                    told.hops.add(hop);
                    made = "hop";
                    break;
                }
                case 's': {
                    Sender s = new Sender();
                    s.code = code(t.get(1), told, names);
                    s.amplitude = in(t.get(2), 1, 99);
                    s.delay = in(t.get(3), 0, s.code.length - 1);
                    s.tone = in(t.get(4), 0, 3);
                    s.data = in(t.get(5), 0, 9999);
                    if (t.size() > 6) s.drift = in(t.get(7), 1, 99);
                    told.senders.add(s);
                    made = s;
                    break;
                }
                case 'e': {
                    Object s = names.get(t.get(0).text);
                    if (!(s instanceof Sender)) throw new Fault(4, t.get(0).place);
                    int later = in(t.get(1), 1, 99);
                    int sign = t.size() == 4 ? -1 : 1;
                    ((Sender) s).echoes.add(new int[] {later, sign * in(t.get(t.size() - 1), 1, 99)});
                    told.echoes++;
                    break;
                }
                case 'j': {
                    int from = in(t.get(0), 0, 511);
                    told.jams.add(new int[] {from, in(t.get(1), from, 511), in(t.get(2), 1, 99), in(t.get(3), 1, 99)});
                    break;
                }
                case 'o':
                    told.most = in(t.get(0), 0, 50);
                    told.seed = t.get(1).number();
                    break;
                default:
                    told.samples = in(t.get(0), 16, 512);
            }
            if (made != null) names.put(t.get(0).text, made);
            at = end + 1;
        }
        return told;
    }

    private static int[] code(Token t, Told told, Map<String, Object> names) throws Fault {
        Object made = names.get(t.text);
        if (!(made instanceof int[])) throw new Fault(4, t.place);
        return (int[]) made;
    }

    private static int[] reg(List<Token> t) throws Fault {
        int n = in(t.get(1), 2, 7);
        int taps = in(t.get(2), 1, (1 << n) - 1);
        int state = in(t.get(3), 1, (1 << n) - 1);
        int[] chips = new int[(1 << n) - 1];
        for (int i = 0; i < chips.length; i++) {
            chips[i] = state % 2 == 1 ? -1 : 1;
            int ones = 0;
            for (int k = 0; k < n; k++) ones += state >> k & taps >> k & 1;
            state = state / 2 + (ones % 2 == 1 ? 1 << n - 1 : 0);
        }
        return chips;
    }

    private static int[] walsh(List<Token> t) throws Fault {
        int n = in(t.get(1), 1, 6);
        int r = in(t.get(2), 0, (1 << n) - 1);
        // by halves: each time the row again, with its sign or the other one
        int[] chips = {1};
        for (int k = 0; k < n; k++) {
            int[] twice = new int[2 * chips.length];
            for (int i = 0; i < chips.length; i++) {
                twice[i] = chips[i];
                twice[i + chips.length] = (r >> k & 1) == 1 ? -chips[i] : chips[i];
            }
            chips = twice;
        }
        return chips;
    }

    private static int[] bits(List<Token> t) throws Fault {
        int length = in(t.get(1), 1, 13);
        int number = in(t.get(2), 0, (1 << length) - 1);
        int[] chips = new int[length];
        for (int i = 0; i < length; i++) chips[i] = (number & 1 << i) != 0 ? -1 : 1;
        return chips;
    }

    private static int[] both(List<Token> t, Told told, Map<String, Object> names) throws Fault {
        int[] first = code(t.get(1), told, names);
        int[] second = code(t.get(2), told, names);
        if (first.length != second.length) throw new Fault(5, t.get(2).place);
        int shift = in(t.get(3), 0, first.length - 1);
        int[] chips = new int[first.length];
        for (int i = 0; i < chips.length; i++) chips[i] = first[i] * second[(i + shift) % chips.length];
        return chips;
    }

    int place() {
        return place;
    }

    // ---- codes

    private int[] row(int code) {
        return code < 0 || code >= told.codes.size() ? null : told.codes.get(code);
    }

    int code(int code, int what) {
        int[] c = row(code);
        if (c == null || what < 0 || what > 3) return -1;
        int n = c.length;
        int minus = 0, changes = 0, shift = 1;
        for (int i = 0; i < n; i++) {
            if (c[i] == -1) minus++;
            if (c[i] != c[(i + 1) % n]) changes++;
        }
        while (alike(code, code, shift % n) != n) shift++;
        return new int[] {n, minus, shift, changes}[what];
    }

    int chip(int code, int i) {
        int[] c = row(code);
        return c == null || i < 0 || i >= c.length ? 0 : c[i];
    }

    int alike(int code, int other, int s) {
        int[] c = row(code), o = row(other);
        if (c == null || o == null || c.length != o.length || s < 0 || s >= c.length) return -1000;
        int sum = 0;
        for (int i = 0; i < c.length; i++) sum += c[i] * o[(i + s) % c.length];
        return sum;
    }

    int worst(int code, int other) {
        if (alike(code, other, 0) == -1000) return -1;
        int most = 0;
        for (int s = 0; s < row(code).length; s++) {
            if (s > 0 || code != other) most = Math.max(most, Math.abs(alike(code, other, s)));
        }
        return most;
    }

    int times(int code, int other, int v) {
        if (alike(code, other, 0) == -1000) return -1;
        int n = 0;
        for (int s = 0; s < row(code).length; s++) if (alike(code, other, s) == v) n++;
        return n;
    }

    int depth(int code) {
        int[] c = row(code);
        if (c == null) return -1;
        for (int n = 0; ; n++) if (solvable(c, n)) return n;
    }

    /** Whether some of the n bits ahead, always the same ones by place, tell each bit from the n-th on. */
    private static boolean solvable(int[] c, int n) {
        int length = c.length;
        List<BigInteger> rows = new ArrayList<>();
        for (int i = n; i < n + length; i++) {
            BigInteger row = BigInteger.ZERO;
            for (int k = 1; k <= n; k++) if (c[(i - k) % length] == -1) row = row.setBit(k);
            if (c[i % length] == -1) row = row.setBit(0);
            rows.add(row);
        }
        for (int k = 1; k <= n; k++) {
            BigInteger pivot = null;
            for (BigInteger row : rows) if (pivot == null && row.testBit(k)) pivot = row;
            if (pivot == null) continue;
            rows.remove(pivot);
            List<BigInteger> rest = new ArrayList<>();
            for (BigInteger row : rows) rest.add(row.testBit(k) ? row.xor(pivot) : row);
            rows = rest;
        }
        for (BigInteger row : rows) if (row.signum() != 0) return false;
        return true;
    }

    int family(int t, int what) {
        if (t < 0 || what < 0 || what > 1) return -1;
        int found = 0;
        int n = told.codes.size();
        int[][] worst = new int[n][n];
        for (int i = 0; i < n; i++) for (int j = 0; j < n; j++) worst[i][j] = worst(i, j);
        for (int set = 0; set < 1 << n; set++) {
            boolean well = true;
            for (int i = 0; i < n; i++) {
                for (int j = 0; j < n; j++) {
                    if ((set >> i & 1) == 1 && (set >> j & 1) == 1) well &= worst[i][j] >= 0 && worst[i][j] <= t;
                }
            }
            if (well && Integer.bitCount(set) > Integer.bitCount(found)) found = set;
        }
        return what == 0 ? Integer.bitCount(found) : found;
    }

    // ---- what comes in

    private Sender sender(int i) {
        return i < 0 || i >= told.senders.size() ? null : told.senders.get(i);
    }

    private boolean isSample(int i) {
        return i >= 0 && i < told.samples;
    }

    int sample(int i, boolean im) {
        return isSample(i) ? (int) air[i][im ? 1 : 0] : -1000000;
    }

    private static long squares(long[][] a, int from, int to) {
        long sum = 0;
        for (int i = from; i <= to; i++) sum += a[i][0] * a[i][0] + a[i][1] * a[i][1];
        return sum;
    }

    long power(int from, int to) {
        return isSample(from) && isSample(to) && from <= to ? squares(air, from, to) : -1;
    }

    int wave(int sender, int i, boolean im) {
        Sender s = sender(sender);
        return s == null || !isSample(i) ? -1000000 : (int) (s.amplitude * s.wave(i, null)[im ? 1 : 0]);
    }

    boolean add(int sender, int times) {
        Sender s = sender(sender);
        if (s == null || Math.abs((long) times) > 9) return false;
        for (int i = 0; i < told.samples; i++) {
            air[i][0] += times * s.all(i, null)[0];
            air[i][1] += times * s.all(i, null)[1];
        }
        return true;
    }

    private static int lot(int n, int seed, int which) {
        long h = seed & 0xFFFFFFFFL;
        for (long it : new long[] {21, which & 0xFFFFFFFFL}) {
            h = ((h ^ it) * 1103515245L + 12345L) & 0xFFFFFFFFL;
            h = h ^ (h >> 15);
        }
        return (int) ((h >> 1) % n);
    }

    boolean noise(int most, int seed) {
        if (most < 0 || most > 50) return false;
        for (int i = 0; i < told.samples; i++) {
            air[i][0] += lot(2 * most + 1, seed, 2 * i) - most;
            air[i][1] += lot(2 * most + 1, seed, 2 * i + 1) - most;
        }
        return true;
    }

    boolean anew() {
        air = new long[told.samples][2];
        for (int i = 0; i < told.samples; i++) {
            for (Sender s : told.senders) {
                air[i][0] += s.all(i, null)[0];
                air[i][1] += s.all(i, null)[1];
            }
            for (int[] j : told.jams) if (i >= j[0] && i <= j[1] && (i - j[0]) % j[3] == 0) air[i][0] += j[2];
        }
        return noise(told.most, told.seed);
    }

    // ---- the search

    /** SUM without a look at what is asked for. */
    private long[] plainSum(int[] c, int d, int t, int w) {
        long re = 0, im = 0;
        for (int k = 0; k < c.length; k++) {
            if (w + k >= told.samples) continue;
            long[] x = air[w + k];
            long[] back = {x[0], x[1]};
            // once more by a quarter until the turn is a whole round
            int turn = t * ((w + k) / 8) % 4;
            for (int q = turn; q % 4 != 0; q++) back = new long[] {-back[1], back[0]};
            int chip = c[Math.floorMod(k - d, c.length)];
            re += back[0] * chip;
            im += back[1] * chip;
        }
        return new long[] {re, im};
    }

    int sum(int code, int d, int t, int w, boolean im) {
        int[] c = row(code);
        if (c == null || d < 0 || d >= c.length || t < 0 || t > 3 || !isSample(w)) return -1000000000;
        return (int) plainSum(c, d, t, w)[im ? 1 : 0];
    }

    private long plainMetric(int[] c, int cell, int w, int m) {
        long sum = 0;
        for (int j = 0; j < m; j++) {
            long[] s = plainSum(c, cell / 4, cell % 4, w + j * c.length);
            sum += s[0] * s[0] + s[1] * s[1];
        }
        return sum;
    }

    private boolean searches(int code, int w, int m) {
        return row(code) != null && isSample(w) && m >= 1 && m <= 9;
    }

    long metric(int code, int cell, int w, int m) {
        if (!searches(code, w, m) || cell < 0 || cell >= 4 * row(code).length) return -1;
        return plainMetric(row(code), cell, w, m);
    }

    /** Of CELLS the one of the greatest METRIC, of alike ones the least; NONE without any. */
    private int greatest(int code, int w, int m, List<Integer> cells) {
        int found = -1;
        long most = -1;
        for (int cell : cells) {
            long v = metric(code, cell, w, m);
            if (v > most) {
                most = v;
                found = cell;
            }
        }
        return found;
    }

    private static List<Integer> upTo(int n) {
        List<Integer> all = new ArrayList<>();
        for (int i = 0; i < n; i++) all.add(i);
        return all;
    }

    int best(int code, int w, int m) {
        return searches(code, w, m) ? greatest(code, w, m, upTo(4 * row(code).length)) : -1;
    }

    private static int around(int a, int b, int length) {
        int off = Math.floorMod(a - b, length);
        return Math.min(off, Math.floorMod(b - a, length));
    }

    int second(int code, int w, int m, int gap) {
        if (!searches(code, w, m) || gap < 0 || gap > 60) return -1;
        int best = best(code, w, m);
        int length = row(code).length;
        List<Integer> cells = upTo(4 * length);
        cells.removeIf(cell -> cell % 4 == best % 4 && around(cell / 4, best / 4, length) <= gap);
        int found = greatest(code, w, m, cells);
        return found < 0 ? -2 : found;
    }

    int peak(int code, int t, int w, int m, int i) {
        if (!searches(code, w, m) || t < 0 || t > 3 || i < 0 || i >= row(code).length) return -1;
        List<Integer> delays = upTo(row(code).length);
        long[] v = new long[delays.size()];
        for (int d : delays) v[d] = metric(code, 4 * d + t, w, m);
        Collections.sort(delays, (a, b) -> v[a] != v[b] ? Long.compare(v[b], v[a]) : Integer.compare(a, b));
        return delays.get(i);
    }

    int alarms(int code, int w, int m, long threshold) {
        if (!searches(code, w, m)) return -1;
        int n = 0;
        for (int cell : upTo(4 * row(code).length)) if (metric(code, cell, w, m) >= threshold) n++;
        return n;
    }

    int plan(int code, int w, int m, int cell, int step, long threshold) {
        if (!searches(code, w, m)) return -1;
        int cells = 4 * row(code).length;
        if (cell < 0 || cell >= cells || step < 1 || step > cells) return -1;
        for (int look = 0; look < cells; look++) {
            if (metric(code, (cell + look * step) % cells, w, m) >= threshold) return look + 1;
        }
        return -2;
    }

    long mean(int q, int a, int f, int b, int k, boolean below) {
        if (q < 2 || q > 1000 || b < 1 || b > 100 || a < 1 || a > b || f < 0 || f > b || k < 0 || k > 1000) return -1;
        BigInteger above = BigInteger.valueOf(2 * b - a).multiply(BigInteger.valueOf(q - 1))
            .multiply(BigInteger.valueOf(b + k * f)).add(BigInteger.valueOf(2 * b * b));
        BigInteger line = BigInteger.valueOf(2 * a * b);
        BigInteger common = above.gcd(line);
        return (below ? line : above).divide(common).longValueExact();
    }

    long over(int q, int a, int b, int d, int n) {
        if (q < 2 || q > 1000 || b < 1 || b > 10 || a < 1 || a > b || d < 0 || d >= q || n < 0 || n > 18) return -1;
        return ways(q, a, b, d, n);
    }

    /** The ways of n looks more when the right CELL is d ahead. */
    private static long ways(int q, int a, int b, int d, int n) {
        if (n == 0) return 0;
        long all = 1;
        for (int i = 1; i < n; i++) all *= b;
        if (d > 0) return b * ways(q, a, b, d - 1, n - 1);
        return a * all + (b - a) * ways(q, a, b, q - 1, n - 1);
    }

    // ---- what is read

    private int periods(Sender s) {
        int n = 0;
        for (int i = 0; i < told.samples; i++) n = Math.max(n, s.period(i) + 1);
        return n;
    }

    /** What lies along the WAVE at a sample, at another sample. */
    private long along(long[][] a, Sender s, int i, int at) {
        if (at >= told.samples) return 0;
        int turn = s.turn(i);
        return a[at][turn % 2] * (turn >= 2 ? -1 : 1) * s.chip(i);
    }

    private int readBit(long[][] a, Sender s, int p) {
        long sum = 0;
        for (int i = 0; i < told.samples; i++) if (s.period(i) == p) sum += along(a, s, i, i);
        return sum < 0 ? 1 : 0;
    }

    private Map<Integer, Integer> readBits(long[][] a, Sender s) {
        long[] sums = new long[periods(s)];
        for (int i = 0; i < told.samples; i++) if (s.period(i) >= 0) sums[s.period(i)] += along(a, s, i, i);
        Map<Integer, Integer> bits = new TreeMap<>();
        for (int p = 0; p < sums.length; p++) bits.put(p, sums[p] < 0 ? 1 : 0);
        return bits;
    }

    private static int wrongOf(Sender s, Map<Integer, Integer> bits) {
        int n = 0;
        for (Map.Entry<Integer, Integer> e : bits.entrySet()) if (e.getValue() != s.bit(e.getKey())) n++;
        return n;
    }

    int bit(int sender, int p) {
        Sender s = sender(sender);
        if (s == null || p < 0) return -1;
        return p >= periods(s) ? -2 : readBit(air, s, p);
    }

    int wrong(int sender) {
        Sender s = sender(sender);
        return s == null ? -1 : wrongOf(s, readBits(air, s));
    }

    int joined(int sender, int p) {
        Sender s = sender(sender);
        if (s == null || p < 0) return -1;
        if (p >= periods(s)) return -2;
        long sum = 0;
        for (int i = 0; i < told.samples; i++) {
            if (s.period(i) != p) continue;
            sum += along(air, s, i, i) * s.amplitude;
            for (int[] e : s.echoes) sum += along(air, s, i, i + e[0]) * e[1];
        }
        return sum < 0 ? 1 : 0;
    }

    int frame(int sender, int bits, int n) {
        Sender s = sender(sender);
        if (s == null || n < 1 || n > 13 || bits < 0 || bits >= Math.pow(2, n)) return -1;
        Map<Integer, Integer> read = readBits(air, s);
        for (int p = 0; p < read.size(); p++) {
            boolean fits = true;
            for (int k = 0; k < n; k++) fits &= Integer.valueOf(bits >> k & 1).equals(read.get(p + k));
            if (fits) return p;
        }
        return -2;
    }

    int hurt(int sender, int width, int amplitude, int what) {
        Sender s = sender(sender);
        if (s == null || width < 1 || width > 99 || amplitude < 1 || amplitude > 99 || what < 0 || what > 1) return -1;
        int place = -1, most = -1;
        for (int start = 0; start < told.samples; start++) {
            long[][] a = copy(air);
            for (int i = start; i < start + width && i < told.samples; i++) a[i][0] += amplitude;
            int wrong = wrongOf(s, readBits(a, s));
            if (wrong > most) {
                most = wrong;
                place = start;
            }
        }
        return what == 0 ? place : most;
    }

    private static long[][] copy(long[][] a) {
        long[][] b = new long[a.length][];
        for (int i = 0; i < a.length; i++) b[i] = a[i].clone();
        return b;
    }

    private void less(long[][] a, Sender s, Map<Integer, Integer> bits) {
        for (int i = 0; i < a.length; i++) {
            long[] x = s.all(i, bits);
            a[i][0] -= x[0];
            a[i][1] -= x[1];
        }
    }

    int atOnce(int r) {
        if (r < 1 || r > 6) return -1;
        int n = told.senders.size();
        List<Map<Integer, Integer>> ahead = new ArrayList<>();
        for (int round = 1; round <= r; round++) {
            List<Map<Integer, Integer>> now = new ArrayList<>();
            for (int k = 0; k < n; k++) {
                long[][] a = copy(air);
                for (int o = 0; o < n && round > 1; o++) if (o != k) less(a, sender(o), ahead.get(o));
                now.add(readBits(a, sender(k)));
            }
            ahead = now;
        }
        int wrong = 0;
        for (int k = 0; k < n; k++) wrong += wrongOf(sender(k), ahead.get(k));
        return wrong;
    }

    private List<Integer> order() {
        List<Integer> order = upTo(told.senders.size());
        order.sort((a, b) -> sender(b).amplitude - sender(a).amplitude);
        return order;
    }

    /** What is left behind so many SENDERS; the bits READ WRONG come into wrong. */
    private long[][] takeOut(int senders, int[] wrong) {
        long[][] left = copy(air);
        for (int number : order().subList(0, senders)) {
            Map<Integer, Integer> bits = readBits(left, sender(number));
            wrong[0] += wrongOf(sender(number), bits);
            less(left, sender(number), bits);
        }
        return left;
    }

    int taken(int what, int i) {
        int n = told.senders.size();
        if (what == 0) {
            int[] wrong = {0};
            takeOut(n, wrong);
            return wrong[0];
        }
        return what != 1 || i < 0 || i >= n ? -1 : order().get(i);
    }

    long rest(int senders) {
        if (senders < 0 || senders > told.senders.size()) return -1;
        return squares(takeOut(senders, new int[1]), 0, told.samples - 1);
    }

    // ---- loops, ranges

    /** The delays ahead of and behind each PERIOD. */
    private List<Integer> loops(int[] c, int d, int t, int w, int m) {
        List<Integer> delays = new ArrayList<>(List.of(d));
        int now = d;
        for (int j = 0; j < m; j++) {
            int early = Math.floorMod(now - 1, c.length), late = (now + 1) % c.length;
            long e = plainMetric(c, 4 * early + t, w, 1);
            long h = plainMetric(c, 4 * now + t, w, 1);
            long l = plainMetric(c, 4 * late + t, w, 1);
            if (l > e && l > h) now = late;
            else if (e > l && e > h) now = early;
            w += c.length;
            delays.add(now);
        }
        return delays;
    }

    int loop(int code, int d, int t, int w, int m) {
        int[] c = row(code);
        if (c == null || d < 0 || d >= c.length || t < 0 || t > 3 || !isSample(w) || m < 0 || m > 40) return -1;
        return loops(c, d, t, w, m).get(m);
    }

    int follows(int sender, int m) {
        Sender s = sender(sender);
        if (s == null || m < 0 || m > 40) return -1;
        List<Integer> delays = loops(s.code, s.delay, s.tone, 0, m);
        for (int j = 1; j <= m; j++) {
            if (around(delays.get(j), s.delay(j * s.code.length), s.code.length) > 1) return 0;
        }
        return 1;
    }

    private boolean notRest(int code, int d) {
        return code != -1 && (row(code) == null || d < 0 || d >= row(code).length);
    }

    long range(int a, int da, int b, int db, int c, int dc) {
        if (a == -1 || notRest(a, da) || notRest(b, db) || notRest(c, dc) || b == -1 && c != -1) return -1;
        long la = row(a).length, lb = b == -1 ? 1 : row(b).length, lc = c == -1 ? 1 : row(c).length;
        for (long x = da; x < la * lb * lc; x += la) {
            if ((b == -1 || x % lb == db) && (c == -1 || x % lc == dc)) return x;
        }
        return -2;
    }

    int near(int a, int da, int b, int db, int most) {
        if (a == -1 || notRest(a, da) || notRest(b, db) || most < 0 || most > 20000) return -1;
        int found = -1, least = 1000;
        for (int x = 0; x <= most; x++) {
            int off = around(x, da, row(a).length) + (b == -1 ? 0 : around(x, db, row(b).length));
            if (off < least) {
                least = off;
                found = x;
            }
        }
        return found;
    }

    // ---- hops

    private int[] hopRow(int hop) {
        return hop < 0 || hop >= told.hops.size() ? null : told.hops.get(hop);
    }

    int hop(int hop, int slot) {
        int[] h = hopRow(hop);
        if (h == null || slot < 0) return -1;
        BigInteger i = BigInteger.valueOf(slot);
        return i.multiply(i).multiply(BigInteger.valueOf(h[1])).add(i.multiply(BigInteger.valueOf(h[2])))
            .mod(BigInteger.valueOf(h[0])).intValue();
    }

    int hits(int hop, int other, int s) {
        int[] h = hopRow(hop), o = hopRow(other);
        if (h == null || o == null || h[0] != o[0] || s < 0 || s >= h[0]) return -1;
        int n = 0;
        for (int i = 0; i < h[0]; i++) if (hop(hop, i) == hop(other, i + s)) n++;
        return n;
    }

    int worstHits(int hop, int other) {
        if (hits(hop, other, 0) == -1) return -1;
        int most = 0;
        for (int s = hop == other ? 1 : 0; s < hopRow(hop)[0]; s++) most = Math.max(most, hits(hop, other, s));
        return most;
    }

    int crowded(int set, int a, int b) {
        if (a < 0 || b > 999 || b < a || (set & 0xFFFFFFFFL) >> told.hops.size() != 0) return -1;
        int n = 0;
        for (int slot = a; slot <= b; slot++) {
            int pairs = 0;
            for (int i = 0; i < 6; i++) {
                for (int j = 0; j < i; j++) {
                    if ((set >> i & 1) == 1 && (set >> j & 1) == 1 && hop(i, slot) == hop(j, slot)) pairs++;
                }
            }
            if (pairs > 0) n++;
        }
        return n;
    }

    int jammed(int hop, int set) {
        int[] h = hopRow(hop);
        if (h == null) return -1;
        int n = 0;
        for (int i = 0; i < h[0]; i++) if ((set & 1 << hop(hop, i)) != 0) n++;
        return n;
    }

    int strongest(int hop, int k) {
        int[] h = hopRow(hop);
        if (h == null || k < 0 || k > h[0]) return -1;
        List<Integer> channels = upTo(h[0]);
        channels.sort((a, b) -> jammed(hop, 1 << b) - jammed(hop, 1 << a));
        int set = 0;
        for (int channel : channels.subList(0, k)) set |= 1 << channel;
        return set;
    }

    boolean hold(int slot) {
        if (slot < 0 || slot > 2) return false;
        slots[slot] = copy(air);
        return true;
    }

    boolean restore(int slot) {
        if (slot < 0 || slot > 2 || slots[slot] == null) return false;
        air = copy(slots[slot]);
        return true;
    }

    int count(int what) {
        int held = 0;
        for (long[][] slot : slots) if (slot != null) held++;
        int[] plain = {told.codes.size(), told.hops.size(), told.senders.size(), told.echoes, told.jams.size(),
            told.samples, tape.length(), held, told.most};
        if (what >= 0 && what < plain.length) return plain[what];
        if (what >= 10 && sender(what - 10) != null) return periods(sender(what - 10));
        return what >= 20 && hopRow(what - 20) != null ? hopRow(what - 20)[0] : -1;
    }
}
