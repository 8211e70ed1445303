import java.util.Random;

/** Lays the class beside the Model: runs of calls with whatever comes, the same ones each time. */
public final class ModelTest {
    private static final int RUNS = 2000;
    private static final int CALLS = 60;
    private static final int[] ODD = {-1, -2, Integer.MIN_VALUE, Integer.MAX_VALUE, 1000, 31, 32, 33, 64, 127, 128, 512, 65536, -512};

    private final Random lot;
    private final SpreadRows x = new SpreadRows();
    private final Model m = new Model();
    private final StringBuilder log = new StringBuilder();
    private int calls = 0;
    private int bad = 0;

    private ModelTest(int seed) {
        lot = new Random(seed);
    }

    public static void main(String[] args) {
        int first = args.length > 0 ? Integer.parseInt(args[0]) : 0;
        int runs = args.length > 1 ? Integer.parseInt(args[1]) : RUNS;
        long all = 0;
        for (int seed = first; seed < first + runs; seed++) {
            ModelTest run = new ModelTest(seed);
            run.go();
            all += run.calls;
            if (run.bad > 0) {
                System.out.println("run " + seed + ":" + run.log);
                Kit.wrong++;
                if (Kit.wrong > 5) break;
            }
        }
        System.out.println(all + " calls laid beside the model");
        Kit.looked = runs;
        Kit.end();
    }

    // ---- what comes

    private int upTo(int n) {
        return n < 1 ? 0 : lot.nextInt(n);
    }

    private boolean one(int of) {
        return lot.nextInt(of) == 0;
    }

    /** A number from least to most; now and then one beside, or an odd one. */
    private int num(int least, int most) {
        if (one(25)) return ODD[upTo(ODD.length)];
        if (one(12)) return one(2) ? least - 1 : most + 1;
        if (one(8)) return one(2) ? least : most;
        return least + upTo(most - least + 1);
    }

    private int code() {
        return num(0, m.count(0) - 1);
    }

    private int sender() {
        return num(0, m.count(2) - 1);
    }

    private int hop() {
        return num(0, m.count(1) - 1);
    }

    private int sampleNumber() {
        return num(0, m.count(5) - 1);
    }

    private int length(int code) {
        return Math.max(1, m.code(code, 0));
    }

    private int period(int sender) {
        return num(0, sender < 0 || sender > 5 ? 3 : m.count(10 + sender) - 1);
    }

    // ---- texts

    private String name() {
        String[] names = {"a", "b", "c", "ab", "row", "x", "longname", "regx", "se", "h"};
        return one(3) ? names[upTo(names.length)] : "" + (char) ('a' + upTo(26)) + (char) ('a' + upTo(26)) + (char) ('a' + upTo(26));
    }

    private String blank() {
        return one(6) ? " \n\t\r".substring(upTo(4)).substring(0, 1) + " " : " ";
    }

    /** Now and then a number that is not as told. */
    private int told(int least, int most, int faults) {
        if (faults > 0 && one(faults)) return one(2) ? Math.max(0, least - 1) : Math.min(9999, most + 1);
        return one(5) ? (one(2) ? least : most) : least + upTo(most - least + 1);
    }

    private String text() {
        StringBuilder t = new StringBuilder();
        int faults = one(3) ? 25 : 0;
        java.util.List<String> codes = new java.util.ArrayList<>(), senders = new java.util.ArrayList<>();
        java.util.List<Integer> lengths = new java.util.ArrayList<>();
        java.util.Set<String> all = new java.util.HashSet<>();
        int codeTells = 1 + upTo(faults > 0 && one(4) ? 9 : 6);
        int smallest = one(2) ? 5 : 7;
        for (int i = 0; i < codeTells; i++) {
            String name = fresh(all, faults);
            int length = 1;
            int kind = upTo(10);
            if (kind < 3) {
                int n = told(2, smallest, faults);
                int most = (1 << Math.min(n, 8)) - 1;
                t.append("reg ").append(name).append(' ').append(n).append(blank()).append(told(1, most, faults)).append(' ').append(told(1, most, faults));
                length = most;
            } else if (kind < 5) {
                int n = told(1, smallest - 1, faults);
                t.append("walsh ").append(name).append(' ').append(n).append(' ').append(told(0, (1 << n) - 1, faults));
                length = 1 << n;
            } else if (kind < 8 || codes.isEmpty()) {
                length = one(3) ? 4 : told(1, 13, faults);
                t.append("bits ").append(name).append(blank()).append(length).append(' ').append(told(0, (1 << length) - 1, faults));
            } else {
                int first = upTo(codes.size());
                int second = first;
                for (int k = 0; k < codes.size(); k++) if (lengths.get(k).equals(lengths.get(first)) && one(2)) second = k;
                if (faults > 0 && one(faults)) second = upTo(codes.size());
                length = lengths.get(first);
                t.append("both ").append(name).append(' ').append(codes.get(first)).append(' ').append(codes.get(second)).append(' ').append(told(0, length - 1, faults));
            }
            t.append(one(4) ? ";" : " ; ");
            codes.add(name);
            lengths.add(length);
        }
        int hops = upTo(faults > 0 && one(4) ? 9 : 5);
        for (int i = 0; i < hops; i++) {
            int[] primes = {2, 3, 5, 7, 11, 13, 17, 19, 23, 29, 31};
            int p = one(2) ? 7 : faults > 0 && one(faults) ? told(1, 32, faults) : primes[upTo(primes.length)];
            t.append("hop ").append(fresh(all, faults)).append(' ').append(p).append(' ').append(told(0, p - 1, faults)).append(' ').append(told(0, p - 1, faults)).append(';');
        }
        if (one(2)) t.append("samples ").append(told(16, one(2) ? 60 : 512, faults)).append(";");
        int sends = upTo(faults > 0 && one(4) ? 9 : 5);
        for (int i = 0; i < sends; i++) {
            String name = fresh(all, faults);
            int k = upTo(codes.size());
            String code = faults > 0 && one(faults) ? name() : codes.get(k);
            t.append("send ").append(name).append(' ').append(code).append(' ').append(told(1, one(2) ? 9 : 99, faults)).append(' ')
                .append(told(0, lengths.get(k) - 1, faults)).append(blank()).append(told(0, 3, faults)).append(' ').append(told(0, 9999, faults));
            if (one(3)) t.append(" drift ").append(told(1, one(2) ? 4 : 99, faults));
            t.append(";");
            senders.add(name);
        }
        int echoes = senders.isEmpty() ? 0 : upTo(faults > 0 && one(4) ? 9 : 4);
        for (int i = 0; i < echoes; i++) {
            String name = faults > 0 && one(faults) ? name() : senders.get(upTo(senders.size()));
            t.append("echo ").append(name).append(' ').append(told(1, one(2) ? 10 : 99, faults)).append(one(2) ? " -" : " ").append(told(1, 99, faults)).append(";");
        }
        int jams = upTo(faults > 0 && one(4) ? 7 : 3);
        for (int i = 0; i < jams; i++) {
            int from = told(0, one(2) ? 50 : 511, faults);
            t.append("jam ").append(from).append(' ').append(told(Math.min(511, from), 511, faults)).append(' ').append(told(1, 99, faults)).append(' ').append(told(1, 99, faults)).append("\n;");
        }
        if (one(3)) t.append("noise ").append(told(0, 50, faults)).append(' ').append(told(0, 9999, faults)).append(";");
        if (one(12)) while (t.length() < 1900) t.append(one(2) ? "samples 32;" : "noise 1 1;");
        if (faults > 0 && one(3)) spoil(t);
        return t.toString();
    }

    private String fresh(java.util.Set<String> all, int faults) {
        if (faults > 0 && one(faults) && !all.isEmpty()) return all.iterator().next();
        String name = name();
        while (all.contains(name)) name = name() + (char) ('a' + upTo(26));
        if (name.length() > 8) name = name.substring(0, 8);
        all.add(name);
        return name;
    }

    private void spoil(StringBuilder t) {
        for (int i = 0; i <= upTo(2); i++) {
            int at = upTo(t.length());
            switch (upTo(5)) {
                case 0: t.deleteCharAt(at); break;
                case 1: t.setCharAt(at, (char) upTo(256)); break;
                case 2: t.insert(at, (char) (32 + upTo(95))); break;
                case 3: t.insert(at, new String[] {" drift ", ";", " - ", " reg ", " 12345 ", "abcdefghi", " 7 ", " q "}[upTo(8)]); break;
                default: t.setLength(at);
            }
            if (t.length() == 0) return;
        }
    }

    // ---- calls

    private void same(String call, long got, long want) {
        calls++;
        log.append(' ').append(call);
        if (got != want) {
            bad++;
            log.append(" answered ").append(got).append(" and not ").append(want).append('!');
        }
    }

    private void same(String call, boolean got, boolean want) {
        same(call, got ? 1 : 0, want ? 1 : 0);
    }

    private void write(String text) {
        int from = 0;
        for (; from < text.length(); from += 20) {
            int[] f = Kit.five(text, from);
            same("feed()", x.feed(f[0], f[1], f[2], f[3], f[4]), m.feed(f[0], f[1], f[2], f[3], f[4]));
        }
        int n = from - text.length();
        same("back(" + n + ")", x.back(n), m.back(n));
    }

    private void readText() {
        String text = text();
        write(text);
        log.append("\n  text ").append(text).append("\n ");
        same("count(6)", x.count(6), m.count(6));
        same("read()", x.read(), m.read());
        same("place()", x.place(), m.place());
        same("count(6)", x.count(6), m.count(6));
        for (int i = 0; i < 3; i++) same("count", x.count(i), m.count(i));
    }

    private void go() {
        readText();
        if (m.count(0) == 0) readText();
        while (calls < 450 && calls < CALLS + 150 && bad == 0) {
            if (one(60)) readText();
            call();
        }
    }

    private void call() {
        switch (upTo(4)) {
            case 0: callOfCodes(); break;
            case 1: callOfAir(); break;
            case 2: callOfSearch(); break;
            default: callOfSenders(); break;
        }
    }

    private void callOfCodes() {
        int c = code(), o = code(), h = hop(), g = hop();
        if (one(2)) {
            int sameLength = o;
            for (int k = 0; k < m.count(0); k++) if (m.code(k, 0) == m.code(c, 0) && one(2)) sameLength = k;
            o = sameLength;
        }
        int s = num(0, length(c) - 1), v = num(-4, 4), k = num(0, 31), a = num(0, 40), b = num(a, a + 40);
        int set = one(5) ? lot.nextInt() : upTo(1 << Math.min(6, Math.max(0, m.count(1))));
        int p = Math.max(2, m.count(20 + Math.max(0, Math.min(6, h))));
        if (p != m.count(20 + Math.max(0, Math.min(6, g))) && one(2)) g = h;
        switch (upTo(16)) {
            case 0: same("code " + c + " " + v, x.code(c, v), m.code(c, v)); break;
            case 1: same("chip " + c + " " + s, x.chip(c, s), m.chip(c, s)); break;
            case 2: same("alike " + c + " " + o + " " + s, x.alike(c, o, s), m.alike(c, o, s)); break;
            case 3: same("worst " + c + " " + o, x.worst(c, o), m.worst(c, o)); break;
            case 4: same("times " + c + " " + o + " " + v, x.times(c, o, v), m.times(c, o, v)); break;
            case 5: same("depth " + c, x.depth(c), m.depth(c)); break;
            case 6: {
                int t = num(0, one(2) ? 8 : 127), what = num(0, 1);
                same("family " + t + " " + what, x.family(t, what), m.family(t, what));
                break;
            }
            case 7: same("hop " + h + " " + a, x.hop(h, a), m.hop(h, a)); break;
            case 8: {
                int shift = num(0, p - 1);
                same("hits " + h + " " + g + " " + shift, x.hits(h, g, shift), m.hits(h, g, shift));
                break;
            }
            case 9: same("worstHits " + h + " " + g, x.worstHits(h, g), m.worstHits(h, g)); break;
            case 10: same("crowded " + set + " " + a + " " + b, x.crowded(set, a, b), m.crowded(set, a, b)); break;
            case 11: same("jammed " + h + " " + set, x.jammed(h, set), m.jammed(h, set)); break;
            case 12: {
                int n = one(2) ? k : num(0, p);
                same("strongest " + h + " " + n, x.strongest(h, n), m.strongest(h, n));
                break;
            }
            case 13: same("count " + a, x.count(a), m.count(a)); break;
            case 14: callOfRange(); break;
            default: callOfMean(); break;
        }
    }

    private void callOfRange() {
        int a = code(), b = one(4) ? -1 : code(), c = one(3) ? -1 : code();
        int da = num(0, length(a) - 1), db = num(0, length(b) - 1), dc = num(0, length(c) - 1);
        if (one(2)) {
            same("range " + a + " " + da + " " + b + " " + db + " " + c + " " + dc, x.range(a, da, b, db, c, dc), m.range(a, da, b, db, c, dc));
        } else {
            int most = one(6) ? num(0, 20000) : num(0, 400);
            same("near " + a + " " + da + " " + b + " " + db + " " + most, x.near(a, da, b, db, most), m.near(a, da, b, db, most));
        }
    }

    private void callOfMean() {
        if (one(2)) {
            int q = num(2, one(2) ? 12 : 1000), b = num(1, 10), a = num(1, b), d = num(0, one(2) ? 5 : q - 1), n = num(0, 18);
            same("over " + q + " " + a + " " + b + " " + d + " " + n, x.over(q, a, b, d, n), m.over(q, a, b, d, n));
        } else {
            int q = num(2, 1000), b = num(1, 100), a = num(1, b), f = num(0, b), k = num(0, 1000);
            boolean below = one(2);
            same("mean " + q + " " + a + " " + f + " " + b + " " + k, x.mean(q, a, f, b, k, below), m.mean(q, a, f, b, k, below));
        }
    }

    private void callOfAir() {
        int i = sampleNumber(), j = num(i, m.count(5) - 1), s = sender(), slot = num(0, 2);
        boolean im = one(2);
        switch (upTo(11)) {
            case 0: case 1: case 2: same("sample " + i + " " + im, x.sample(i, im), m.sample(i, im)); break;
            case 3: same("power " + i + " " + j, x.power(i, j), m.power(i, j)); break;
            case 4: same("wave " + s + " " + i + " " + im, x.wave(s, i, im), m.wave(s, i, im)); break;
            case 5: {
                int times = num(-9, 9);
                same("add " + s + " " + times, x.add(s, times), m.add(s, times));
                break;
            }
            case 6: {
                int most = num(0, 50), seed = lot.nextInt();
                same("noise " + most + " " + seed, x.noise(most, seed), m.noise(most, seed));
                break;
            }
            case 7: same("anew", x.anew(), m.anew()); break;
            case 8: same("hold " + slot, x.hold(slot), m.hold(slot)); break;
            case 9: same("restore " + slot, x.restore(slot), m.restore(slot)); break;
            default: {
                int n = m.count(5) - 1;
                same("power 0 " + n, x.power(0, n), m.power(0, n));
            }
        }
    }

    private void callOfSearch() {
        int c = code(), w = sampleNumber(), n = one(2) ? 1 : num(1, 9), length = length(c);
        int d = num(0, length - 1), t = num(0, 3), cell = num(0, 4 * length - 1);
        long some = m.metric(c, upTo(4 * length), w, n);
        long threshold = one(8) ? lot.nextLong() : some + upTo(3) - 1;
        String at = c + " " + w + " " + n;
        switch (upTo(9)) {
            case 0: {
                boolean im = one(2);
                same("sum " + at + " " + d + " " + t + im, x.sum(c, d, t, w, im), m.sum(c, d, t, w, im));
                break;
            }
            case 1: same("metric " + at + " " + cell, x.metric(c, cell, w, n), m.metric(c, cell, w, n)); break;
            case 2: same("best " + at, x.best(c, w, n), m.best(c, w, n)); break;
            case 3: {
                int gap = one(2) ? num(0, 3) : num(0, 60);
                same("second " + at + " " + gap, x.second(c, w, n, gap), m.second(c, w, n, gap));
                break;
            }
            case 4: same("peak " + at + " " + t + " " + d, x.peak(c, t, w, n, d), m.peak(c, t, w, n, d)); break;
            case 5: same("alarms " + at + " " + threshold, x.alarms(c, w, n, threshold), m.alarms(c, w, n, threshold)); break;
            case 6: {
                int step = num(1, 4 * length);
                same("plan " + at + " " + cell + " " + step + " " + threshold, x.plan(c, w, n, cell, step, threshold), m.plan(c, w, n, cell, step, threshold));
                break;
            }
            case 7: {
                int periods = num(0, 40);
                same("loop " + c + " " + d + " " + t + " " + w + " " + periods, x.loop(c, d, t, w, periods), m.loop(c, d, t, w, periods));
                break;
            }
            default: {
                int s = sender(), periods = num(0, one(2) ? 5 : 40);
                same("follows " + s + " " + periods, x.follows(s, periods), m.follows(s, periods));
            }
        }
    }

    private void callOfSenders() {
        int s = sender(), p = period(s);
        switch (upTo(9)) {
            case 0: same("bit " + s + " " + p, x.bit(s, p), m.bit(s, p)); break;
            case 1: same("wrong " + s, x.wrong(s), m.wrong(s)); break;
            case 2: same("joined " + s + " " + p, x.joined(s, p), m.joined(s, p)); break;
            case 3: {
                int n = one(2) ? num(1, 4) : num(1, 13);
                int bits = num(0, (1 << Math.max(0, Math.min(n, 14))) - 1);
                same("frame " + s + " " + bits + " " + n, x.frame(s, bits, n), m.frame(s, bits, n));
                break;
            }
            case 4: {
                if (!one(4)) break;
                int width = one(2) ? num(1, 9) : num(1, 99), amplitude = num(1, 99), what = num(0, 1);
                same("hurt " + s + " " + width + " " + amplitude + " " + what, x.hurt(s, width, amplitude, what), m.hurt(s, width, amplitude, what));
                break;
            }
            case 5: {
                int r = num(1, 6);
                same("atOnce " + r, x.atOnce(r), m.atOnce(r));
                break;
            }
            case 6: {
                int what = num(0, 1), i = sender();
                same("taken " + what + " " + i, x.taken(what, i), m.taken(what, i));
                break;
            }
            case 7: {
                int n = num(0, m.count(2));
                same("rest " + n, x.rest(n), m.rest(n));
                break;
            }
            default: same("count " + (10 + s), x.count(10 + s), m.count(10 + s));
        }
    }
}
