/**
 * Signs spread by long rows of plus and minus: what a text tells of rows, senders and hops, what comes in
 * when they send, and how it is searched, read and followed.
 */
public final class SpreadRows {
    public static final int NONE = -1;

    private static final int NOT_THERE = -2;
    private static final int NO_SAMPLE = -1000000;
    private static final int NO_SUM = -1000000000;
    private static final int NO_ALIKE = -1000;
    private static final int TAPE_MOST = 2000;
    private static final int TOKENS_MOST = 400;
    private static final int CODES_MOST = 8;
    private static final int HOPS_MOST = 6;
    private static final int SENDERS_MOST = 6;
    private static final int ECHOES_MOST = 6;
    private static final int JAMS_MOST = 4;
    private static final int SLOTS_MOST = 3;
    private static final int LENGTH_MOST = 127;
    private static final int SAMPLES_MOST = 512;
    private static final int SAMPLES_USUAL = 256;
    private static final int TONES = 4;
    private static final int DATA_BITS = 14;

    private final Maker maker = new Maker();
    private final Signal incoming = new Signal();
    private final Signal[] slots = new Signal[SLOTS_MOST];
    private final Kinship kinship = new Kinship();
    private final Search search = new Search();
    private final Receiver receiver = new Receiver();
    private Told told = new Told();
    private Told spare = new Told();
    private int faultPlace = NONE;
    private int heldSlots = 0;

    public SpreadRows() {
        for (int i = 0; i < slots.length; i++) {
            slots[i] = new Signal();
        }
    }

    // ---- the tape and its text

    public int feed(int a, int b, int c, int d, int e) {
        Text text = maker.text;
        if (text.length + 20 > TAPE_MOST) {
            return NONE;
        }
        text.append(a);
        text.append(b);
        text.append(c);
        text.append(d);
        text.append(e);
        return text.length;
    }

    public int back(int n) {
        Text text = maker.text;
        if (n < 0 || n > text.length) {
            return NONE;
        }
        text.length -= n;
        return text.length;
    }

    public int read() {
        int fault = maker.make(spare);
        faultPlace = maker.faultPlace;
        if (fault == 0) {
            Told ahead = told;
            told = spare;
            spare = ahead;
            heldSlots = 0;
            incoming.layAnew(told);
        }
        return fault;
    }

    public int place() {
        return faultPlace;
    }

    // ---- codes

    public int code(int code, int what) {
        Code row = told.codeAt(code);
        if (row == null) {
            return NONE;
        }
        switch (what) {
            case 0: return row.length;
            case 1: return row.minuses();
            case 2: return row.ownShift();
            case 3: return row.changes();
            default: return NONE;
        }
    }

    public int chip(int code, int i) {
        Code row = told.codeAt(code);
        return row == null || i < 0 || i >= row.length ? 0 : row.chipAt(i);
    }

    public int alike(int code, int other, int s) {
        Code row = told.codeAt(code);
        Code second = told.codeAt(other);
        if (!likeLong(row, second) || s < 0 || s >= row.length) {
            return NO_ALIKE;
        }
        return row.alikeness(second, s);
    }

    public int worst(int code, int other) {
        Code row = told.codeAt(code);
        Code second = told.codeAt(other);
        return likeLong(row, second) ? row.worstLikeness(second, code == other) : NONE;
    }

    public int times(int code, int other, int v) {
        Code row = told.codeAt(code);
        Code second = told.codeAt(other);
        return likeLong(row, second) ? row.shiftsAlikeBy(second, v) : NONE;
    }

    private static boolean likeLong(Code row, Code second) {
        return row != null && second != null && row.length == second.length;
    }

    public int depth(int code) {
        Code row = told.codeAt(code);
        return row == null ? NONE : kinship.depthOf(row);
    }

    public int family(int t, int what) {
        if (t < 0 || what < 0 || what > 1) {
            return NONE;
        }
        int set = kinship.familyOf(told, t);
        return what == 0 ? Integer.bitCount(set) : set;
    }

    // ---- what comes in

    public int sample(int i, boolean im) {
        return isSample(i) ? (int) incoming.value(i, axis(im)) : NO_SAMPLE;
    }

    public long power(int from, int to) {
        return isSample(from) && isSample(to) && from <= to ? incoming.squares(from, to) : NONE;
    }

    public int wave(int sender, int i, boolean im) {
        Sender one = told.senderAt(sender);
        if (one == null || !isSample(i)) {
            return NO_SAMPLE;
        }
        return one.amplitude * one.unitAt(i, axis(im));
    }

    public boolean add(int sender, int times) {
        Sender one = told.senderAt(sender);
        if (one == null || times < -9 || times > 9) {
            return false;
        }
        incoming.layWave(one, null, times);
        return true;
    }

    public boolean noise(int most, int seed) {
        if (most < 0 || most > 50) {
            return false;
        }
        incoming.layNoise(most, seed);
        return true;
    }

    public boolean anew() {
        incoming.layAnew(told);
        return true;
    }

    private boolean isSample(int i) {
        return i >= 0 && i < told.samples;
    }

    private static int axis(boolean im) {
        return im ? 1 : 0;
    }

    // ---- the search for a row

    public int sum(int code, int d, int t, int w, boolean im) {
        Code row = told.codeAt(code);
        if (!isCell(row, d, t) || !isSample(w)) {
            return NO_SUM;
        }
        return (int) search.sumOf(row, d, t, incoming, w, axis(im));
    }

    public long metric(int code, int cell, int w, int m) {
        Code row = searched(code, w, m);
        if (row == null || cell < 0 || cell >= row.cells()) {
            return NONE;
        }
        return search.metricOf(row, cell, incoming, w, m);
    }

    public int best(int code, int w, int m) {
        Code row = searched(code, w, m);
        if (row == null) {
            return NONE;
        }
        search.survey(row, incoming, w, m);
        return search.greatestCell();
    }

    public int second(int code, int w, int m, int gap) {
        Code row = searched(code, w, m);
        if (row == null || gap < 0 || gap > 60) {
            return NONE;
        }
        search.survey(row, incoming, w, m);
        return search.cellBeside(search.greatestCell(), gap);
    }

    public int peak(int code, int t, int w, int m, int i) {
        Code row = searched(code, w, m);
        if (!isCell(row, i, t)) {
            return NONE;
        }
        search.survey(row, incoming, w, m);
        return search.delayOfRank(t, i);
    }

    public int alarms(int code, int w, int m, long threshold) {
        Code row = searched(code, w, m);
        if (row == null) {
            return NONE;
        }
        search.survey(row, incoming, w, m);
        return search.cellsFrom(threshold);
    }

    public int plan(int code, int w, int m, int cell, int step, long threshold) {
        Code row = searched(code, w, m);
        if (row == null || cell < 0 || cell >= row.cells() || step < 1 || step > row.cells()) {
            return NONE;
        }
        search.survey(row, incoming, w, m);
        return search.looksTill(cell, step, threshold);
    }

    private Code searched(int code, int w, int m) {
        return isSample(w) && m >= 1 && m <= 9 ? told.codeAt(code) : null;
    }

    private static boolean isCell(Code row, int d, int t) {
        return row != null && d >= 0 && d < row.length && t >= 0 && t < TONES;
    }

    public long mean(int q, int a, int f, int b, int k, boolean below) {
        boolean searches = q >= 2 && q <= 1000 && k >= 0 && k <= 1000;
        boolean chances = b >= 1 && b <= 100 && a >= 1 && a <= b && f >= 0 && f <= b;
        if (!searches || !chances) {
            return NONE;
        }
        long above = (2L * b - a) * (q - 1) * (b + (long) k * f) + 2L * b * b;
        long line = 2L * a * b;
        return quotient(below ? line : above, commonDivisor(above, line));
    }

    public long over(int q, int a, int b, int d, int n) {
        boolean chances = b >= 1 && b <= 10 && a >= 1 && a <= b;
        if (!chances || q < 2 || q > 1000 || d < 0 || d >= q || n < 0 || n > 18) {
            return NONE;
        }
        int looks = d < n ? (int) quotient(n - 1 - d, q) + 1 : 0;
        return toThe(b, n) - toThe(b - a, looks) * toThe(b, n - looks);
    }

    // ---- what is read

    public int bit(int sender, int p) {
        Sender one = told.senderAt(sender);
        if (one == null || p < 0) {
            return NONE;
        }
        if (p >= one.periods(told.samples)) {
            return NOT_THERE;
        }
        receiver.gather(incoming, one);
        return receiver.bitRead(p);
    }

    public int wrong(int sender) {
        Sender one = told.senderAt(sender);
        if (one == null) {
            return NONE;
        }
        receiver.gather(incoming, one);
        return receiver.wrongBits(one, one.periods(told.samples));
    }

    public int joined(int sender, int p) {
        Sender one = told.senderAt(sender);
        if (one == null || p < 0) {
            return NONE;
        }
        if (p >= one.periods(told.samples)) {
            return NOT_THERE;
        }
        return receiver.bitJoined(incoming, one, p);
    }

    public int frame(int sender, int bits, int n) {
        Sender one = told.senderAt(sender);
        if (one == null || n < 1 || n > 13 || bits < 0 || bits >= 1 << n) {
            return NONE;
        }
        receiver.gather(incoming, one);
        int place = receiver.placeOfBits(bits, n, one.periods(told.samples));
        return place == NONE ? NOT_THERE : place;
    }

    public int hurt(int sender, int width, int amplitude, int what) {
        Sender one = told.senderAt(sender);
        boolean pulse = width >= 1 && width <= 99 && amplitude >= 1 && amplitude <= 99;
        if (one == null || !pulse || what < 0 || what > 1) {
            return NONE;
        }
        receiver.findWorstPulse(incoming, one, width, amplitude);
        return what == 0 ? receiver.pulseStart : receiver.pulseWrong;
    }

    public int atOnce(int r) {
        return r < 1 || r > 6 ? NONE : receiver.wrongAtOnce(told, incoming, r);
    }

    public int taken(int what, int i) {
        if (what == 0) {
            return receiver.takeOut(told, incoming, told.senderCount);
        }
        return what == 1 ? receiver.strongerFirst(told, i) : NONE;
    }

    public long rest(int senders) {
        if (senders < 0 || senders > told.senderCount) {
            return NONE;
        }
        receiver.takeOut(told, incoming, senders);
        return receiver.squaresLeft();
    }

    // ---- loops and ranges

    public int loop(int code, int d, int t, int w, int m) {
        Code row = told.codeAt(code);
        if (!isCell(row, d, t) || !isSample(w) || m < 0 || m > 40) {
            return NONE;
        }
        int delay = d;
        for (int period = 0; period < m; period++) {
            delay = search.loopStep(row, delay, t, incoming, w + period * row.length);
        }
        return delay;
    }

    public int follows(int sender, int m) {
        Sender one = told.senderAt(sender);
        Code row = one == null ? null : one.code;
        if (row == null || m < 0 || m > 40) {
            return NONE;
        }
        int delay = one.delay;
        for (int period = 0; period < m; period++) {
            delay = search.loopStep(row, delay, one.tone, incoming, period * row.length);
            int due = one.delayAt((period + 1) * row.length);
            if (apart(delay, due, row.length) > 1) {
                return 0;
            }
        }
        return 1;
    }

    public long range(int a, int da, int b, int db, int c, int dc) {
        boolean inTurn = a != NONE && (b != NONE || c == NONE);
        if (!inTurn || !isRest(a, da) || !isRest(b, db) || !isRest(c, dc)) {
            return NONE;
        }
        long first = lengthOf(a);
        long second = lengthOf(b);
        long both = first * quotient(second, commonDivisor(first, second));
        long found = nextWithRest(da, first, second, db);
        return found < 0 ? NOT_THERE : nextWithRest(found, both, lengthOf(c), dc);
    }

    /** The least of from, from + step, .. whose rest by a length is a due one (for NONE: any); -2 without. */
    private static long nextWithRest(long from, long step, long length, int due) {
        for (long k = 0; k < length; k++) {
            long number = from + k * step;
            if (remainder(number, length) == remainder(due, length)) {
                return number;
            }
        }
        return NOT_THERE;
    }

    public int near(int a, int da, int b, int db, int most) {
        if (a == NONE || !isRest(a, da) || !isRest(b, db) || most < 0 || most > 20000) {
            return NONE;
        }
        // no rest is further off than its LENGTH
        int least = 2 * LENGTH_MOST + 1;
        int found = 0;
        for (int number = 0; number <= most; number++) {
            int off = apart(number, da, lengthOf(a)) + apart(number, db, lengthOf(b));
            if (off < least) {
                least = off;
                found = number;
            }
        }
        return found;
    }

    private boolean isRest(int code, int delay) {
        return code == NONE || isCell(told.codeAt(code), delay, 0);
    }

    /** A CODE that is NONE asks for nothing: every number has the one rest by 1. */
    private int lengthOf(int code) {
        Code row = told.codeAt(code);
        return row == null ? 1 : row.length;
    }

    // ---- hops

    public int hop(int hop, int slot) {
        Hop one = told.hopAt(hop);
        return one == null || slot < 0 ? NONE : one.channelAt(slot);
    }

    public int hits(int hop, int other, int s) {
        Hop one = told.hopAt(hop);
        Hop second = told.hopAt(other);
        if (!likePrimed(one, second) || s < 0 || s >= one.prime) {
            return NONE;
        }
        return one.meets(second, s);
    }

    public int worstHits(int hop, int other) {
        Hop one = told.hopAt(hop);
        Hop second = told.hopAt(other);
        if (!likePrimed(one, second)) {
            return NONE;
        }
        int most = 0;
        for (int s = hop == other ? 1 : 0; s < one.prime; s++) {
            most = Math.max(most, one.meets(second, s));
        }
        return most;
    }

    private static boolean likePrimed(Hop one, Hop second) {
        return one != null && second != null && one.prime == second.prime;
    }

    public int crowded(int set, int a, int b) {
        boolean spans = a >= 0 && b >= a && b <= 999;
        if (!spans || set < 0 || set >= 1 << told.hopCount) {
            return NONE;
        }
        int slotsCrowded = 0;
        for (int slot = a; slot <= b; slot++) {
            if (told.isCrowded(set, slot)) {
                slotsCrowded++;
            }
        }
        return slotsCrowded;
    }

    public int jammed(int hop, int set) {
        Hop one = told.hopAt(hop);
        return one == null ? NONE : one.slotsIn(set);
    }

    public int strongest(int hop, int k) {
        Hop one = told.hopAt(hop);
        return one == null || k < 0 || k > one.prime ? NONE : one.strongestChannels(k);
    }

    // ---- what is kept

    public boolean hold(int slot) {
        Signal kept = slotAt(slot);
        if (kept == null) {
            return false;
        }
        kept.takeOver(incoming);
        heldSlots |= 1 << slot;
        return true;
    }

    public boolean restore(int slot) {
        Signal kept = slotAt(slot);
        if (kept == null || (heldSlots >> slot & 1) == 0) {
            return false;
        }
        incoming.takeOver(kept);
        return true;
    }

    private Signal slotAt(int slot) {
        return slot >= 0 && slot < slots.length ? slots[slot] : null;
    }

    public int count(int what) {
        switch (what) {
            case 0: return told.codeCount;
            case 1: return told.hopCount;
            case 2: return told.senderCount;
            case 3: return told.echoCount;
            case 4: return told.jamCount;
            case 5: return told.samples;
            case 6: return maker.text.length;
            case 7: return Integer.bitCount(heldSlots);
            case 8: return told.noiseMost;
            default: return countOfOne(what);
        }
    }

    private int countOfOne(int what) {
        Sender sender = what < 10 ? null : told.senderAt(what - 10);
        Hop hop = what < 20 ? null : told.hopAt(what - 20);
        if (sender != null) {
            return sender.periods(told.samples);
        }
        return hop == null ? NONE : hop.prime;
    }

    // ---- numbers

    private static long quotient(long number, long by) {
        return by < 1 ? 0 : number / by;
    }

    /** The rest of a number, of one below 0 too, from 0 to by - 1. */
    private static long remainder(long number, long by) {
        if (by < 1) {
            return 0;
        }
        long left = number % by;
        return left < 0 ? left + by : left;
    }

    /** How far two delays lie from one another in a round of a length, either way. */
    private static int apart(int one, int other, int length) {
        int way = (int) remainder((long) one - other, length);
        return Math.min(way, length - way);
    }

    private static long commonDivisor(long one, long other) {
        long high = one;
        long low = other;
        for (int i = 0; i < 100 && low > 0; i++) {
            long left = high % low;
            high = low;
            low = left;
        }
        return high;
    }

    private static long toThe(long base, int exponent) {
        long product = 1;
        for (int i = 0; i < exponent; i++) {
            product *= base;
        }
        return product;
    }

    /** The TURN of a TONE at a sample: 0 re, 1 im, 2 re times -1, 3 im times -1. */
    private static int turnAt(int tone, int i) {
        return tone * (i >> 3) & 3;
    }

    // ---- the classes inside

    /** A row of whole numbers: outside of it stand zeros, and nothing can be put there. */
    private static final class Row {
        private final long[] cells;

        Row(int size) {
            cells = new long[Math.max(size, 0)];
        }

        long at(int i) {
            return i >= 0 && i < cells.length ? cells[i] : 0;
        }

        int small(int i) {
            return i >= 0 && i < cells.length ? (int) cells[i] : 0;
        }

        void put(int i, long value) {
            if (i >= 0 && i < cells.length) {
                cells[i] = value;
            }
        }

        void increase(int i, long by) {
            if (i >= 0 && i < cells.length) {
                cells[i] += by;
            }
        }

        void clear() {
            for (int i = 0; i < cells.length; i++) {
                cells[i] = 0;
            }
        }

        void takeOver(Row other) {
            for (int i = 0; i < cells.length; i++) {
                cells[i] = other.at(i);
            }
        }

        /** The sum of the first n numbers, each times one of another row's first n, which go round from a place on. */
        long timesRound(Row other, int place, int n) {
            long[] own = cells;
            long[] others = other.cells;
            int round = Math.min(n, Math.min(own.length, others.length));
            long total = 0;
            int k = place;
            for (int i = 0; i < round; i++) {
                if (k < 0 || k >= round) {
                    k = 0;
                }
                total += own[i] * others[k];
                k++;
            }
            return total;
        }
    }

    /** A CODE: its CHIPS, that come again and again. */
    private static final class Code {
        private final Row chips = new Row(LENGTH_MOST);
        private int length = 1;

        /** A CHIP of the first round. */
        int chipAt(int i) {
            return chips.small(i);
        }

        int chipRoundAt(int i) {
            return chips.small((int) remainder(i, length));
        }

        int cells() {
            return TONES * length;
        }

        private void putBit(int i, int bit) {
            chips.put(i, (bit & 1) == 1 ? -1 : 1);
        }

        void layRegister(int n, int taps, int start) {
            length = (1 << n) - 1;
            int state = start;
            for (int i = 0; i < length; i++) {
                putBit(i, state);
                state = state >> 1 | (Integer.bitCount(state & taps) & 1) << n - 1;
            }
        }

        void layWalsh(int n, int r) {
            length = 1 << n;
            for (int i = 0; i < length; i++) {
                putBit(i, Integer.bitCount(i & r));
            }
        }

        void layBits(int size, int number) {
            length = size;
            for (int i = 0; i < length; i++) {
                putBit(i, number >> i);
            }
        }

        void layBoth(Code first, Code second, int shift) {
            length = first.length;
            for (int i = 0; i < length; i++) {
                chips.put(i, first.chipRoundAt(i) * second.chipRoundAt(i + shift));
            }
        }

        int minuses() {
            int n = 0;
            for (int i = 0; i < length; i++) {
                n += chipAt(i) < 0 ? 1 : 0;
            }
            return n;
        }

        int ownShift() {
            for (int s = 1; s < length; s++) {
                if (alikeness(this, s) == length) {
                    return s;
                }
            }
            return length;
        }

        int changes() {
            int n = 0;
            for (int i = 0; i < length; i++) {
                n += chipAt(i) == chipRoundAt(i + 1) ? 0 : 1;
            }
            return n;
        }

        /** The sum of a row's first LENGTH numbers, each times a CHIP, from CHIP first on. */
        long along(Row row, int first) {
            return row.timesRound(chips, first, length);
        }

        /** ALIKE at a shift below the length. */
        int alikeness(Code other, int shift) {
            return (int) other.along(chips, shift);
        }

        /** WORST; with itself the shift 0 does not count. */
        int worstLikeness(Code other, boolean itself) {
            int most = 0;
            for (int s = itself ? 1 : 0; s < length; s++) {
                most = Math.max(most, Math.abs(alikeness(other, s)));
            }
            return most;
        }

        int shiftsAlikeBy(Code other, int v) {
            int n = 0;
            for (int s = 0; s < length; s++) {
                n += alikeness(other, s) == v ? 1 : 0;
            }
            return n;
        }
    }

    /** A HOP: a CHANNEL for each SLOT. */
    private static final class Hop {
        private int prime = 2;
        private int square = 0;
        private int single = 0;

        void lay(int p, int a, int b) {
            prime = p;
            square = a;
            single = b;
        }

        int channelAt(int slot) {
            int i = (int) remainder(slot, prime);
            return (int) remainder(square * i * i + single * i, prime);
        }

        int meets(Hop other, int shift) {
            int n = 0;
            for (int i = 0; i < prime; i++) {
                n += channelAt(i) == other.channelAt(i + shift) ? 1 : 0;
            }
            return n;
        }

        int slotsIn(int set) {
            int n = 0;
            for (int i = 0; i < prime; i++) {
                n += set >> channelAt(i) & 1;
            }
            return n;
        }

        int strongestChannels(int k) {
            int set = 0;
            for (int i = 0; i < k; i++) {
                set |= 1 << strongestBeside(set);
            }
            return set;
        }

        private int strongestBeside(int set) {
            int most = NONE;
            int found = 0;
            for (int channel = 0; channel < prime; channel++) {
                int slotsHit = (set >> channel & 1) == 1 ? NONE : slotsIn(1 << channel);
                if (slotsHit > most) {
                    most = slotsHit;
                    found = channel;
                }
            }
            return found;
        }
    }

    /** A SENDER with its ECHOES; its WAVE as a unit, without AMPLITUDE. */
    private static final class Sender {
        private final Row later = new Row(ECHOES_MOST);
        private final Row loud = new Row(ECHOES_MOST);
        private Code code = null;
        private int echoes = 0;
        private int amplitude = 1;
        private int delay = 0;
        private int tone = 0;
        private int data = 0;
        private int drift = 0;

        void layEcho(int samplesLater, int echoAmplitude) {
            later.put(echoes, samplesLater);
            loud.put(echoes, echoAmplitude);
            echoes++;
        }

        private int length() {
            return code == null ? 1 : code.length;
        }

        int delayAt(int i) {
            return delay + (int) quotient(i, (long) drift * length());
        }

        int periodAt(int i) {
            int gone = i - delayAt(i);
            return gone < 0 ? NONE : (int) quotient(gone, length());
        }

        /** With each sample the PERIOD stays or becomes the next one, so the last sample's tells how many. */
        int periods(int samples) {
            return periodAt(samples - 1) + 1;
        }

        int axisAt(int i) {
            return turnAt(tone, i) & 1;
        }

        /** The CHIP with its turn's sign, DATA not looked at; 0 where there is no WAVE. */
        int signAt(int i) {
            int gone = i - delayAt(i);
            if (gone < 0 || code == null) {
                return 0;
            }
            int chip = code.chipRoundAt(gone);
            return turnAt(tone, i) > 1 ? -chip : chip;
        }

        int bitSent(int period) {
            return data >> (int) remainder(period, DATA_BITS) & 1;
        }

        int unitAt(int i, int axis) {
            if (axisAt(i) != axis) {
                return 0;
            }
            return bitSent(periodAt(i)) == 1 ? -signAt(i) : signAt(i);
        }
    }

    /** What a text tells. */
    private static final class Told {
        private final Code[] codes = new Code[CODES_MOST];
        private final Hop[] hops = new Hop[HOPS_MOST];
        private final Sender[] senders = new Sender[SENDERS_MOST];
        private final Row jamFrom = new Row(JAMS_MOST);
        private final Row jamTo = new Row(JAMS_MOST);
        private final Row jamLoud = new Row(JAMS_MOST);
        private final Row jamEach = new Row(JAMS_MOST);
        private int codeCount = 0;
        private int hopCount = 0;
        private int senderCount = 0;
        private int echoCount = 0;
        private int jamCount = 0;
        private int samples = SAMPLES_USUAL;
        private int noiseMost = 0;
        private int noiseSeed = 0;

        Told() {
            for (int i = 0; i < codes.length; i++) {
                codes[i] = new Code();
            }
            for (int i = 0; i < hops.length; i++) {
                hops[i] = new Hop();
            }
            for (int i = 0; i < senders.length; i++) {
                senders[i] = new Sender();
            }
        }

        void clear() {
            codeCount = 0;
            hopCount = 0;
            senderCount = 0;
            echoCount = 0;
            jamCount = 0;
            samples = SAMPLES_USUAL;
            noiseMost = 0;
            noiseSeed = 0;
        }

        Code codeAt(int i) {
            return i >= 0 && i < codeCount && i < codes.length ? codes[i] : null;
        }

        Hop hopAt(int i) {
            return i >= 0 && i < hopCount && i < hops.length ? hops[i] : null;
        }

        Sender senderAt(int i) {
            return i >= 0 && i < senderCount && i < senders.length ? senders[i] : null;
        }

        Code nextCode() {
            codeCount++;
            return codeAt(codeCount - 1);
        }

        Hop nextHop() {
            hopCount++;
            return hopAt(hopCount - 1);
        }

        Sender nextSender() {
            senderCount++;
            return senderAt(senderCount - 1);
        }

        void layJam(int from, int to, int amplitude, int each) {
            jamFrom.put(jamCount, from);
            jamTo.put(jamCount, to);
            jamLoud.put(jamCount, amplitude);
            jamEach.put(jamCount, each);
            jamCount++;
        }

        boolean isCrowded(int set, int slot) {
            int used = 0;
            for (int i = 0; i < hopCount; i++) {
                Hop hop = (set >> i & 1) == 1 ? hopAt(i) : null;
                int channel = hop == null ? 0 : 1 << hop.channelAt(slot);
                if ((used & channel) != 0) {
                    return true;
                }
                used |= channel;
            }
            return false;
        }
    }

    /** The tape; its text cut into TOKENS, and whether TELLS can be made of them. */
    private static final class Text {
        private static final int SYNTAX = 1;
        private static final int ROOM = 2;

        private static final int END = 0;
        private static final int NO_TOKEN = 1;
        private static final int NAME = 2;
        private static final int INT = 3;
        private static final int CLOSE = 4;
        private static final int MINUS = 5;
        private static final int WORD = 6;

        private static final String WORDS = "reg walsh bits both hop send echo jam noise samples drift ";
        private static final int REG = 0;
        private static final int WALSH = 1;
        private static final int BITS = 2;
        private static final int BOTH = 3;
        private static final int HOP = 4;
        private static final int SEND = 5;
        private static final int ECHO = 6;
        private static final int JAM = 7;
        private static final int NOISE = 8;
        private static final int SAMPLES = 9;
        private static final int DRIFT = 10;

        private final Row tape = new Row(TAPE_MOST);
        // one more than TOKENS may be: the one too many, or the END
        private final Row kinds = new Row(TOKENS_MOST + 1);
        private final Row places = new Row(TOKENS_MOST + 1);
        private final Row values = new Row(TOKENS_MOST + 1);
        private final Row wordValues = new Row(DRIFT + 1);
        private final Row roomLeft = new Row(JAM + 1);
        private int length = 0;
        private int at = 0;
        private int fault = 0;
        private int faultPlace = NONE;

        Text() {
            int word = 0;
            for (int i = 0; i < WORDS.length(); i++) {
                if (WORDS.charAt(i) == ' ') {
                    word++;
                } else {
                    wordValues.put(word, withLetter(wordValues.at(word), WORDS.charAt(i)));
                }
            }
        }

        /** What letters count, each of them in its place: no two NAMES the same. */
        private static long withLetter(long value, int letter) {
            return value * 27 + letter - 'a' + 1;
        }

        void append(int fourBytes) {
            for (int shift = 24; shift >= 0; shift -= 8) {
                tape.put(length, fourBytes >> shift & 255);
                length++;
            }
        }

        /** Takes the tape, which is empty then: 0, or the number of the first FAULT of SYNTAX or ROOM. */
        int take() {
            cut();
            length = 0;
            fault = 0;
            at = 0;
            makeRoom();
            for (int i = 0; i < TOKENS_MOST && fault == 0 && kinds.at(at) != END; i++) {
                tell();
            }
            faultPlace = fault == 0 ? NONE : places.small(at);
            return fault;
        }

        /** Cuts the text up to its end, to what is no TOKEN, or to the one that is too many. */
        private void cut() {
            int from = 0;
            int kind = WORD;
            for (int n = 0; n <= TOKENS_MOST && kind != END && kind != NO_TOKEN; n++) {
                int start = behindBlanks(from);
                from = behindToken(start);
                long value = valueOf(start, from);
                kind = kindOf(start, from, value);
                kinds.put(n, kind);
                places.put(n, start);
                values.put(n, kind == WORD ? wordOf(value) : value);
            }
        }

        private int behindBlanks(int from) {
            for (int i = from; i < length; i++) {
                int sign = tape.small(i);
                if (sign != 9 && sign != 10 && sign != 13 && sign != 32) {
                    return i;
                }
            }
            return length;
        }

        private int behindToken(int start) {
            int first = tape.small(start);
            boolean goesOn = isLetter(first) || isDigit(first);
            for (int i = start + 1; i < length; i++) {
                int sign = tape.small(i);
                boolean alike = isLetter(sign) == isLetter(first) && isDigit(sign) == isDigit(first);
                if (!goesOn || !alike) {
                    return i;
                }
            }
            return length;
        }

        /** Of letters, of digits what they count; of too many of them it may wrap, but they are no TOKEN. */
        private long valueOf(int start, int end) {
            long value = 0;
            for (int i = start; i < end; i++) {
                int sign = tape.small(i);
                value = isDigit(sign) ? value * 10 + sign - '0' : withLetter(value, sign);
            }
            return value;
        }

        private int kindOf(int start, int end, long value) {
            int sign = tape.small(start);
            if (start >= length) {
                return END;
            }
            if (isLetter(sign)) {
                return end - start > 8 ? NO_TOKEN : wordOf(value) == NONE ? NAME : WORD;
            }
            if (isDigit(sign)) {
                return end - start > 4 ? NO_TOKEN : INT;
            }
            return sign == ';' ? CLOSE : sign == '-' ? MINUS : NO_TOKEN;
        }

        private int wordOf(long value) {
            for (int word = 0; word <= DRIFT; word++) {
                if (wordValues.at(word) == value) {
                    return word;
                }
            }
            return NONE;
        }

        private static boolean isLetter(int sign) {
            return sign >= 'a' && sign <= 'z';
        }

        private static boolean isDigit(int sign) {
            return sign >= '0' && sign <= '9';
        }

        private void makeRoom() {
            roomLeft.put(BOTH, CODES_MOST);
            roomLeft.put(HOP, HOPS_MOST);
            roomLeft.put(SEND, SENDERS_MOST);
            roomLeft.put(ECHO, ECHOES_MOST);
            roomLeft.put(JAM, JAMS_MOST);
        }

        /** CODES of all kinds share one room; of noise and samples there may be any number. */
        private boolean takesRoom(int word) {
            if (word > JAM) {
                return true;
            }
            int room = Math.max(word, BOTH);
            roomLeft.increase(room, -1);
            return roomLeft.at(room) >= 0;
        }

        private static String shapeOf(int word) {
            switch (word) {
                case REG: return "niii;";
                case WALSH: return "nii;";
                case BITS: return "nii;";
                case BOTH: return "nnni;";
                case HOP: return "niii;";
                case SEND: return "nniiiid;";
                case ECHO: return "ni-i;";
                case JAM: return "iiii;";
                case NOISE: return "ii;";
                default: return "i;";
            }
        }

        /** One TELL; at a FAULT it stays at the TOKEN that is one. */
        private void tell() {
            int word = values.small(at);
            if (kinds.at(at) != WORD || word == DRIFT) {
                fault = SYNTAX;
                return;
            }
            if (!takesRoom(word)) {
                fault = ROOM;
                return;
            }
            String shape = shapeOf(word);
            goOn();
            for (int i = 0; i < shape.length() && fault == 0; i++) {
                part(shape.charAt(i));
            }
        }

        private void part(int sign) {
            long kind = kinds.at(at);
            switch (sign) {
                case 'n': must(NAME); break;
                case 'i': must(INT); break;
                case '-':
                    if (kind == MINUS) {
                        goOn();
                    }
                    break;
                case 'd':
                    if (kind == WORD && values.at(at) == DRIFT) {
                        goOn();
                        if (fault == 0) {
                            must(INT);
                        }
                    }
                    break;
                default: must(CLOSE); break;
            }
        }

        private void must(int due) {
            if (kinds.at(at) == due) {
                goOn();
            } else {
                fault = SYNTAX;
            }
        }

        private void goOn() {
            if (at >= TOKENS_MOST) {
                fault = ROOM;
            } else {
                at++;
            }
        }
    }

    /** Makes what a text tells out of its TOKENS. */
    private static final class Maker {
        private static final int TWICE = 3;
        private static final int UNKNOWN = 4;
        private static final int WRONG = 5;
        private static final int NAMES_MOST = CODES_MOST + HOPS_MOST + SENDERS_MOST;
        // 2, 3, 5, 7, 11, 13, 17, 19, 23, 29, 31: for each prime up to 31 its bit
        private static final long PRIMES = 0xA08A28ACL;

        private final Text text = new Text();
        private final Row names = new Row(NAMES_MOST);
        private final Row nameWords = new Row(NAMES_MOST);
        private final Row nameNumbers = new Row(NAMES_MOST);
        private int nameCount = 0;
        private int at = 0;
        private int fault = 0;
        private int faultPlace = NONE;

        /** Fills what is told from the tape: 0, or the number of the first FAULT. */
        int make(Told told) {
            told.clear();
            nameCount = 0;
            at = 0;
            fault = text.take();
            faultPlace = text.faultPlace;
            for (int i = 0; i < TOKENS_MOST && at < text.at && fault == 0; i++) {
                int word = text.values.small(at);
                at++;
                makeTell(told, word);
                // the ; that closes it
                at++;
            }
            return fault;
        }

        private void makeTell(Told told, int word) {
            switch (word) {
                case Text.REG: makeRegister(told); break;
                case Text.WALSH: makeWalsh(told); break;
                case Text.BITS: makeBits(told); break;
                case Text.BOTH: makeBoth(told); break;
                case Text.HOP: makeHop(told); break;
                case Text.SEND: makeSender(told); break;
                case Text.ECHO: makeEcho(told); break;
                case Text.JAM: makeJam(told); break;
                case Text.NOISE:
                    told.noiseMost = number(0, 50);
                    told.noiseSeed = number(0, 9999);
                    break;
                case Text.SAMPLES: told.samples = number(16, SAMPLES_MOST); break;
                default: break;
            }
        }

        private void refuse(int number, int place) {
            if (fault == 0) {
                fault = number;
                faultPlace = place;
            }
        }

        /** The INT that stands next; the least one instead of one that is not as told. */
        private int number(int least, int most) {
            long told = text.values.at(at);
            if (told < least || told > most) {
                refuse(WRONG, text.places.small(at));
                told = least;
            }
            at++;
            return (int) told;
        }

        private int nameIndex(long name) {
            for (int i = 0; i < nameCount; i++) {
                if (names.at(i) == name) {
                    return i;
                }
            }
            return NONE;
        }

        private void newName(int word, int number) {
            long name = text.values.at(at);
            if (nameIndex(name) != NONE) {
                refuse(TWICE, text.places.small(at));
            }
            names.put(nameCount, name);
            nameWords.put(nameCount, word);
            nameNumbers.put(nameCount, number);
            nameCount++;
            at++;
        }

        /** The number of what the NAME that stands next was told for; NONE if it was not. */
        private int numberNamed(int word) {
            int i = nameIndex(text.values.at(at));
            at++;
            return i != NONE && nameWords.at(i) == word ? nameNumbers.small(i) : NONE;
        }

        /** The CODE whose NAME stands next; null, and a FAULT, if none told ahead has it. */
        private Code codeNamed(Told told) {
            int place = text.places.small(at);
            Code code = told.codeAt(numberNamed(Text.REG));
            if (code == null) {
                refuse(UNKNOWN, place);
            }
            return code;
        }

        private void makeRegister(Told told) {
            newName(Text.REG, told.codeCount);
            int n = number(2, 7);
            int taps = number(1, (1 << n) - 1);
            int start = number(1, (1 << n) - 1);
            Code code = told.nextCode();
            if (code != null) {
                code.layRegister(n, taps, start);
            }
        }

        private void makeWalsh(Told told) {
            newName(Text.REG, told.codeCount);
            int n = number(1, 6);
            int r = number(0, (1 << n) - 1);
            Code code = told.nextCode();
            if (code != null) {
                code.layWalsh(n, r);
            }
        }

        private void makeBits(Told told) {
            newName(Text.REG, told.codeCount);
            int size = number(1, 13);
            int bits = number(0, (1 << size) - 1);
            Code code = told.nextCode();
            if (code != null) {
                code.layBits(size, bits);
            }
        }

        private void makeBoth(Told told) {
            newName(Text.REG, told.codeCount);
            Code first = codeNamed(told);
            int place = text.places.small(at);
            Code second = codeNamed(told);
            if (first == null || second == null) {
                return;
            }
            if (first.length != second.length) {
                refuse(WRONG, place);
            }
            int shift = number(0, first.length - 1);
            Code code = told.nextCode();
            if (code != null) {
                code.layBoth(first, second, shift);
            }
        }

        private void makeHop(Told told) {
            newName(Text.HOP, told.hopCount);
            int place = text.places.small(at);
            int prime = number(2, 31);
            if ((PRIMES >> prime & 1) == 0) {
                refuse(WRONG, place);
            }
            int a = number(0, prime - 1);
            int b = number(0, prime - 1);
            Hop hop = told.nextHop();
            if (hop != null) {
                hop.lay(prime, a, b);
            }
        }

        private void makeSender(Told told) {
            newName(Text.SEND, told.senderCount);
            Code code = codeNamed(told);
            Sender sender = told.nextSender();
            if (code == null || sender == null) {
                return;
            }
            sender.code = code;
            sender.echoes = 0;
            sender.amplitude = number(1, 99);
            sender.delay = number(0, code.length - 1);
            sender.tone = number(0, TONES - 1);
            sender.data = number(0, 9999);
            sender.drift = 0;
            if (text.kinds.at(at) == Text.WORD) {
                at++;
                sender.drift = number(1, 99);
            }
        }

        private void makeEcho(Told told) {
            int place = text.places.small(at);
            Sender sender = told.senderAt(numberNamed(Text.SEND));
            if (sender == null) {
                refuse(UNKNOWN, place);
            }
            int later = number(1, 99);
            boolean minus = text.kinds.at(at) == Text.MINUS;
            at += minus ? 1 : 0;
            int amplitude = number(1, 99);
            if (sender != null) {
                sender.layEcho(later, minus ? -amplitude : amplitude);
            }
            told.echoCount++;
        }

        private void makeJam(Told told) {
            int from = number(0, SAMPLES_MOST - 1);
            int to = number(from, SAMPLES_MOST - 1);
            int amplitude = number(1, 99);
            told.layJam(from, to, amplitude, number(1, 99));
        }
    }

    /** WHAT COMES IN, or what is left of it; beyond its samples stand zeros. */
    private static final class Signal {
        private final Row re = new Row(SAMPLES_MOST);
        private final Row im = new Row(SAMPLES_MOST);
        private int samples = SAMPLES_USUAL;

        long value(int i, int axis) {
            if (i >= samples) {
                return 0;
            }
            return axis == 0 ? re.at(i) : im.at(i);
        }

        private void increase(int i, int axis, int by) {
            if (i < samples && axis == 0) {
                re.increase(i, by);
            } else if (i < samples) {
                im.increase(i, by);
            }
        }

        void takeOver(Signal other) {
            samples = other.samples;
            re.takeOver(other.re);
            im.takeOver(other.im);
        }

        long squares(int from, int to) {
            long total = 0;
            for (int i = from; i <= to && i < samples; i++) {
                total += re.at(i) * re.at(i) + im.at(i) * im.at(i);
            }
            return total;
        }

        void layAnew(Told told) {
            samples = told.samples;
            re.clear();
            im.clear();
            for (int i = 0; i < told.senderCount; i++) {
                Sender sender = told.senderAt(i);
                if (sender != null) {
                    layWave(sender, null, 1);
                }
            }
            for (int i = 0; i < told.jamCount; i++) {
                layJam(told, i);
            }
            layNoise(told.noiseMost, told.noiseSeed);
        }

        /** Adds a WAVE and its ECHOES so many times, with the bits of READ's sums; with DATA if these are null. */
        void layWave(Sender sender, Row sums, int factor) {
            for (int i = 0; i < samples; i++) {
                int period = sender.periodAt(i);
                if (period >= 0) {
                    boolean turned = sums == null ? sender.bitSent(period) == 1 : sums.at(period) < 0;
                    int unit = sender.signAt(i) * (turned ? -factor : factor);
                    layUnit(sender, i, unit);
                }
            }
        }

        private void layUnit(Sender sender, int i, int unit) {
            int axis = sender.axisAt(i);
            increase(i, axis, unit * sender.amplitude);
            for (int e = 0; e < sender.echoes; e++) {
                increase(i + sender.later.small(e), axis, unit * sender.loud.small(e));
            }
        }

        private void layJam(Told told, int jam) {
            int each = told.jamEach.small(jam);
            int till = Math.min(told.jamTo.small(jam), samples - 1);
            if (each < 1) {
                return;
            }
            for (int i = told.jamFrom.small(jam); i <= till; i += each) {
                increase(i, 0, told.jamLoud.small(jam));
            }
        }

        void layNoise(int most, int seed) {
            for (int i = 0; i < samples; i++) {
                re.increase(i, lot(seed, 2 * i, 2 * most + 1) - most);
                im.increase(i, lot(seed, 2 * i + 1, 2 * most + 1) - most);
            }
        }

        private static int lot(int seed, int which, int n) {
            int h = stirred(stirred(seed, 21), which);
            return n < 1 ? 0 : (h >>> 1) % n;
        }

        private static int stirred(int h, int it) {
            int product = (h ^ it) * 1103515245 + 12345;
            return product ^ product >>> 15;
        }
    }

    /** How CODES hang together: what one is by itself, which are never too alike. */
    private static final class Kinship {
        private final Row friends = new Row(CODES_MOST);
        // by which places ahead a bit is told: now, as it was ahead of the last growth, and kept meanwhile
        private final Row taps = new Row(LENGTH_MOST + 1);
        private final Row older = new Row(LENGTH_MOST + 1);
        private final Row kept = new Row(LENGTH_MOST + 1);

        /** The set of the FAMILY: any set all of whose members are friends, each of itself too. */
        int familyOf(Told told, int t) {
            friends.clear();
            for (int i = 0; i < told.codeCount; i++) {
                for (int j = 0; j <= i; j++) {
                    befriend(told, i, j, t);
                }
            }
            int found = 0;
            for (int set = 1; set < 1 << Math.min(told.codeCount, CODES_MOST); set++) {
                if (Integer.bitCount(set) > Integer.bitCount(found) && areFriends(set)) {
                    found = set;
                }
            }
            return found;
        }

        /** WORST is the same either way round, so each is the other one's friend. */
        private void befriend(Told told, int one, int other, int t) {
            Code row = told.codeAt(one);
            Code second = told.codeAt(other);
            if (likeLong(row, second) && row.worstLikeness(second, one == other) <= t) {
                friends.put(one, friends.at(one) | 1L << other);
                friends.put(other, friends.at(other) | 1L << one);
            }
        }

        private boolean areFriends(int set) {
            for (int i = 0; i < CODES_MOST; i++) {
                if ((set >> i & 1) == 1 && (set & ~friends.small(i)) != 0) {
                    return false;
                }
            }
            return true;
        }

        /** Grows the shortest rule (after Berlekamp and Massey); two rounds tell it, for DEPTH is LENGTH at most. */
        int depthOf(Code code) {
            taps.clear();
            taps.put(0, 1);
            older.takeOver(taps);
            int depth = 0;
            int gap = 1;
            for (int n = 0; n < 2 * code.length; n++) {
                if (fails(code, n, depth)) {
                    boolean grows = 2 * depth <= n;
                    kept.takeOver(taps);
                    mixOlder(gap);
                    if (grows) {
                        older.takeOver(kept);
                        depth = n + 1 - depth;
                        gap = 0;
                    }
                }
                gap++;
            }
            return depth;
        }

        private boolean fails(Code code, int n, int depth) {
            int odd = 0;
            for (int i = 0; i <= depth; i++) {
                int bit = code.chipRoundAt(n - i) < 0 ? 1 : 0;
                odd ^= taps.small(i) & bit;
            }
            return odd == 1;
        }

        private void mixOlder(int gap) {
            for (int i = gap; i <= LENGTH_MOST; i++) {
                taps.put(i, taps.at(i) ^ older.at(i - gap));
            }
        }
    }

    /** The search for a CODE in what comes in, CELL by CELL. */
    private static final class Search {
        private final Row turnedRe = new Row(LENGTH_MOST);
        private final Row turnedIm = new Row(LENGTH_MOST);
        private final Row metrics = new Row(TONES * LENGTH_MOST);
        // of the CODE surveyed last
        private int length = 1;

        long sumOf(Code code, int d, int t, Signal signal, int w, int axis) {
            turnBack(code.length, t, signal, w);
            return code.along(axis == 0 ? turnedRe : turnedIm, code.length - d);
        }

        long metricOf(Code code, int cell, Signal signal, int w, int m) {
            long total = 0;
            for (int j = 0; j < m; j++) {
                turnBack(code.length, cell % TONES, signal, w + j * code.length);
                total += squares(code, cell / TONES);
            }
            return total;
        }

        /** Lays the METRICS of all CELLS ready for what is asked next. */
        void survey(Code code, Signal signal, int w, int m) {
            length = code.length;
            metrics.clear();
            for (int t = 0; t < TONES; t++) {
                // PERIODS behind the last sample have nothing to add
                for (int j = 0; j < m && w + j * length < signal.samples; j++) {
                    turnBack(length, t, signal, w + j * length);
                    for (int d = 0; d < length; d++) {
                        metrics.increase(TONES * d + t, squares(code, d));
                    }
                }
            }
        }

        private void turnBack(int chips, int t, Signal signal, int from) {
            for (int k = 0; k < chips; k++) {
                int turn = turnAt(t, from + k);
                long re = signal.value(from + k, 0);
                long im = signal.value(from + k, 1);
                long alongRe = (turn & 1) == 0 ? re : im;
                long alongIm = (turn & 1) == 0 ? im : -re;
                turnedRe.put(k, turn > 1 ? -alongRe : alongRe);
                turnedIm.put(k, turn > 1 ? -alongIm : alongIm);
            }
        }

        private long squares(Code code, int d) {
            long re = code.along(turnedRe, code.length - d);
            long im = code.along(turnedIm, code.length - d);
            return re * re + im * im;
        }

        int greatestCell() {
            int found = 0;
            for (int cell = 1; cell < TONES * length; cell++) {
                if (metrics.at(cell) > metrics.at(found)) {
                    found = cell;
                }
            }
            return found;
        }

        /** SECOND beside a CELL; there is always one, for there are other TONES. */
        int cellBeside(int first, int gap) {
            int found = NOT_THERE;
            for (int cell = 0; cell < TONES * length; cell++) {
                boolean far = apart(cell / TONES, first / TONES, length) > gap;
                boolean counts = far || cell % TONES != first % TONES;
                if (counts && (found < 0 || metrics.at(cell) > metrics.at(found))) {
                    found = cell;
                }
            }
            return found;
        }

        int delayOfRank(int t, int rank) {
            for (int d = 0; d < length; d++) {
                if (rankOf(d, t) == rank) {
                    return d;
                }
            }
            return NONE;
        }

        private int rankOf(int delay, int t) {
            long own = metrics.at(TONES * delay + t);
            int ahead = 0;
            for (int d = 0; d < length; d++) {
                long other = metrics.at(TONES * d + t);
                ahead += other > own || other == own && d < delay ? 1 : 0;
            }
            return ahead;
        }

        int cellsFrom(long threshold) {
            int n = 0;
            for (int cell = 0; cell < TONES * length; cell++) {
                n += metrics.at(cell) >= threshold ? 1 : 0;
            }
            return n;
        }

        int looksTill(int first, int step, long threshold) {
            int cell = first;
            for (int look = 1; look <= TONES * length; look++) {
                if (metrics.at(cell) >= threshold) {
                    return look;
                }
                cell = (int) remainder(cell + step, TONES * length);
            }
            return NOT_THERE;
        }

        /** The delay behind one PERIOD of a LOOP. */
        int loopStep(Code code, int d, int t, Signal signal, int w) {
            int below = d > 0 ? d - 1 : code.length - 1;
            int above = d + 1 < code.length ? d + 1 : 0;
            turnBack(code.length, t, signal, w);
            long early = squares(code, below);
            long here = squares(code, d);
            long late = squares(code, above);
            if (late > here && late > early) {
                return above;
            }
            return early > here && early > late ? below : d;
        }
    }

    /** Reads what SENDERS send, by the sums of READ, one a PERIOD. */
    private static final class Receiver {
        private final Row sums = new Row(SAMPLES_MOST);
        private final Signal left = new Signal();
        private final Row[] sumsNow = new Row[SENDERS_MOST];
        private final Row[] sumsAhead = new Row[SENDERS_MOST];
        private int pulseStart = 0;
        private int pulseWrong = 0;

        Receiver() {
            for (int i = 0; i < SENDERS_MOST; i++) {
                sumsNow[i] = new Row(SAMPLES_MOST);
                sumsAhead[i] = new Row(SAMPLES_MOST);
            }
        }

        void gather(Signal signal, Sender sender) {
            sums.clear();
            for (int i = 0; i < signal.samples; i++) {
                sums.increase(sender.periodAt(i), signal.value(i, sender.axisAt(i)) * sender.signAt(i));
            }
        }

        int bitRead(int period) {
            return sums.at(period) < 0 ? 1 : 0;
        }

        private int wrongBit(Sender sender, int period) {
            return bitRead(period) == sender.bitSent(period) ? 0 : 1;
        }

        int wrongBits(Sender sender, int periods) {
            int n = 0;
            for (int p = 0; p < periods; p++) {
                n += wrongBit(sender, p);
            }
            return n;
        }

        int bitJoined(Signal signal, Sender sender, int period) {
            long total = 0;
            for (int i = 0; i < signal.samples; i++) {
                if (sender.periodAt(i) == period) {
                    total += sender.signAt(i) * joinedValue(signal, sender, i);
                }
            }
            return total < 0 ? 1 : 0;
        }

        private static long joinedValue(Signal signal, Sender sender, int i) {
            int axis = sender.axisAt(i);
            long total = signal.value(i, axis) * sender.amplitude;
            for (int e = 0; e < sender.echoes; e++) {
                total += signal.value(i + sender.later.small(e), axis) * sender.loud.at(e);
            }
            return total;
        }

        int placeOfBits(int bits, int n, int periods) {
            for (int p = 0; p + n <= periods; p++) {
                if (isFrame(bits, n, p)) {
                    return p;
                }
            }
            return NONE;
        }

        private boolean isFrame(int bits, int n, int first) {
            for (int i = 0; i < n; i++) {
                if (bitRead(first + i) != (bits >> i & 1)) {
                    return false;
                }
            }
            return true;
        }

        /** Shifts the pulse on, sample by sample: of the sums only those change whose samples it leaves or meets. */
        void findWorstPulse(Signal signal, Sender sender, int width, int amplitude) {
            gather(signal, sender);
            int samples = signal.samples;
            int wrongNow = wrongBits(sender, sender.periods(samples));
            for (int i = 0; i < width; i++) {
                wrongNow += wrongMore(sender, i, samples, amplitude);
            }
            pulseStart = 0;
            pulseWrong = wrongNow;
            for (int start = 1; start < samples; start++) {
                wrongNow += wrongMore(sender, start - 1, samples, -amplitude);
                wrongNow += wrongMore(sender, start + width - 1, samples, amplitude);
                if (wrongNow > pulseWrong) {
                    pulseStart = start;
                    pulseWrong = wrongNow;
                }
            }
        }

        /** Adds to re of a sample: how many bits more are wrong then. */
        private int wrongMore(Sender sender, int i, int samples, int by) {
            int period = sender.periodAt(i);
            if (i >= samples || period < 0 || sender.axisAt(i) != 0) {
                return 0;
            }
            int ahead = wrongBit(sender, period);
            sums.increase(period, by * sender.signAt(i));
            return wrongBit(sender, period) - ahead;
        }

        /** The SENDER so many others are TAKEN OUT ahead of; NONE if there are not so many. */
        int strongerFirst(Told told, int rank) {
            for (int i = 0; i < told.senderCount; i++) {
                if (strongerThan(told, i) == rank) {
                    return i;
                }
            }
            return NONE;
        }

        private static int strongerThan(Told told, int number) {
            Sender sender = told.senderAt(number);
            int n = 0;
            for (int i = 0; i < told.senderCount; i++) {
                Sender other = told.senderAt(i);
                if (sender != null && other != null) {
                    boolean level = other.amplitude == sender.amplitude && i < number;
                    n += other.amplitude > sender.amplitude || level ? 1 : 0;
                }
            }
            return n;
        }

        /** Takes so many SENDERS out: how many of their bits are WRONG. */
        int takeOut(Told told, Signal signal, int senders) {
            left.takeOver(signal);
            int wrongAll = 0;
            for (int rank = 0; rank < senders; rank++) {
                Sender sender = told.senderAt(strongerFirst(told, rank));
                if (sender != null) {
                    gather(left, sender);
                    wrongAll += wrongBits(sender, sender.periods(left.samples));
                    left.layWave(sender, sums, -1);
                }
            }
            return wrongAll;
        }

        long squaresLeft() {
            return left.squares(0, left.samples - 1);
        }

        int wrongAtOnce(Told told, Signal signal, int rounds) {
            int wrongAll = 0;
            for (int round = 0; round < rounds; round++) {
                left.takeOver(signal);
                if (round > 0) {
                    takeAllOut(told);
                }
                wrongAll = readAll(told, round > 0);
            }
            return wrongAll;
        }

        /** All SENDERS go with the bits of the round ahead, which are kept for readAll. */
        private void takeAllOut(Told told) {
            for (int i = 0; i < sumsNow.length && i < sumsAhead.length; i++) {
                Sender sender = told.senderAt(i);
                if (sender != null) {
                    sumsAhead[i].takeOver(sumsNow[i]);
                    left.layWave(sender, sumsAhead[i], -1);
                }
            }
        }

        /** Each SENDER is READ from what is left and its own, if that was taken out. */
        private int readAll(Told told, boolean takenOut) {
            int wrongAll = 0;
            for (int i = 0; i < sumsNow.length && i < sumsAhead.length; i++) {
                Sender sender = told.senderAt(i);
                if (sender != null) {
                    if (takenOut) {
                        left.layWave(sender, sumsAhead[i], 1);
                    }
                    gather(left, sender);
                    if (takenOut) {
                        left.layWave(sender, sumsAhead[i], -1);
                    }
                    sumsNow[i].takeOver(sums);
                    wrongAll += wrongBits(sender, sender.periods(left.samples));
                }
            }
            return wrongAll;
        }
    }
}
