import java.math.BigInteger;

/** Of the document's II what comes in, and promises 13 to 18, 46 and 47: as told, changed, held. */
final class AirEdges extends Kit {
    private static final int NOTHING = -1000000;
    /** -+++ three times as loud from sample 0 on, in 16 samples. */
    private static final String PLAIN = "bits a 4 1; samples 16; send s a 3 0 0 0;";

    private AirEdges() {
    }

    static void all() {
        samplesThereAre();
        belowItsDelay();
        driftGoesBy();
        driftOfOneChip();
        driftOverTheEnd();
        chipsAgain();
        dataAgain();
        turns();
        eights();
        amplitudes();
        echoesAhead();
        echoesTurned();
        jamsFromTo();
        jamsBeyond();
        noiseBounds();
        lots();
        noSuchSample();
        powerBounds();
        noSuchPower();
        waveAlone();
        noSuchWave();
        addTimes();
        addRefused();
        noiseAdded();
        noiseRefused();
        anewAsTold();
        holdSlots();
        holdRefused();
        restoreStays();
        restoreRefused();
    }

    private static String re(SpreadRows x, int n) {
        return row(n, i -> x.sample(i, false));
    }

    private static String im(SpreadRows x, int n) {
        return row(n, i -> x.sample(i, true));
    }

    // ---- what senders send

    private static void samplesThereAre() {
        sentence("13 48", "WHAT COMES IN: samples 0 .. SAMPLES - 1, each two whole numbers (re, im).");
        for (int n : new int[] {16, 17, 255, 512}) {
            SpreadRows x = told("bits a 1 0; samples " + n + "; send s a 7 0 0 0;");
            due("the first of " + n, x.sample(0, false), 7);
            due("the last of " + n, Math.abs(x.sample(n - 1, false)) + Math.abs(x.sample(n - 1, true)), 7);
            due("none beyond " + n, x.sample(n, false), NOTHING);
            due("power of " + n, x.power(0, n - 1), 49L * n);
        }
    }

    private static void belowItsDelay() {
        sentence("13 15", "0 if i is below d");
        SpreadRows x = told("bits a 4 15; samples 16; send s a 3 3 0 0;");
        due("re", re(x, 9), "0 0 0 -3 -3 -3 -3 -3 -3");
        rowDue("wave", "0 0 0 -3", i -> x.wave(0, i, false));
        SpreadRows y = told("reg m 7 64 127; samples 16; send s m 3 15 0 0; send t m 5 16 0 0; send u m 7 126 0 0;");
        due("the last sample alone", re(y, 16), "0 0 0 0 0 0 0 0 0 0 0 0 0 0 0 -3");
        rowDue("PERIODS", "1 0 0", s -> y.count(10 + s));
    }

    private static void driftGoesBy() {
        sentence("13 15 48", "its DELAY then is d: DELAY, and 1 more for every DRIFT times LENGTH samples that have gone by (i by DRIFT * LENGTH, rounded down)");
        // +- : by a DRIFT of 3 each sixth sample says once more what the one ahead of it said
        SpreadRows x = told("bits a 2 2; samples 20; send s a 1 0 0 0 drift 3;");
        due("re", re(x, 20), "1 -1 1 -1 1 -1 -1 1 -1 1 -1 1 1 -1 1 -1 1 -1 -1 1");
        due("PERIODS", x.count(10), 9);
        // ++++ from sample 3 on; at sample 4 the DELAY is 4
        SpreadRows y = told("bits a 4 0; samples 20; send s a 1 3 0 1 drift 1;");
        due("PERIOD 0 is told longer", re(y, 12), "0 0 0 -1 -1 -1 -1 -1 -1 1 1 1");
        // the least one and the greatest one
        SpreadRows z = told("bits a 2 2; samples 512; send s a 1 0 0 0 drift 99; send t a 1 0 0 0 drift 1;");
        rowDue("wave 0", "1 -1 -1 1", i -> z.wave(0, 196 + i, false));
        rowDue("wave 0", "-1 1 -1 1 1 -1", i -> z.wave(0, 392 + i, false));
        rowDue("wave 1", "1 -1 -1 1 1 -1 -1 1", i -> z.wave(1, i, false));
    }

    private static void driftOfOneChip() {
        sentence("13 28 48", "the rest by 14 of its PERIOD: i - d by LENGTH, rounded down");
        // one CHIP, a DRIFT of 1: the PERIOD never ends
        SpreadRows x = told("bits a 1 0; samples 16; send s a 2 0 0 1 drift 1;");
        due("re", re(x, 16), "-2 -2 -2 -2 -2 -2 -2 -2 -2 -2 -2 -2 -2 -2 -2 -2");
        due("PERIODS", x.count(10), 1);
        due("bit(0, 0)", x.bit(0, 0), 1);
        due("bit(0, 1)", x.bit(0, 1), -2);
    }

    private static void driftOverTheEnd() {
        sentence("13 15", "1 more for every DRIFT times LENGTH samples");
        // -+++; the DELAY goes beyond LENGTH - 1: 3, 4, 5, 6 from samples 0, 4, 8, 12 on
        SpreadRows x = told("bits a 4 1; samples 24; send s a 1 3 0 0 drift 1;");
        due("re", re(x, 16), "0 0 0 -1 -1 1 1 1 1 -1 1 1 1 1 -1 1");
        due("PERIODS", x.count(10), 4);
    }

    private static void chipsAgain() {
        sentence("13 15", "else its CHIP (i - d, its rest by LENGTH)");
        SpreadRows x = told("bits a 3 1; samples 16; send s a 5 2 0 0;");
        due("re", re(x, 16), "0 0 -5 5 5 -5 5 5 -5 5 5 -5 5 5 -5 5");
        SpreadRows y = told("reg m 7 64 127; both n m m 0; bits o 13 4096; samples 512; send s m 1 0 0 0; send t o 1 12 0 0;");
        for (int i : new int[] {126, 127, 253, 254, 381, 508}) due("wave at " + i, y.wave(0, i, false), -1);
        rowDue("wave", "1 -1 1", i -> y.wave(1, 23 + i, false));
    }

    private static void dataAgain() {
        sentence("13 15", "turned to -1 times it if bit (the rest by 14 of its PERIOD: i - d by LENGTH, rounded down) of DATA is 1");
        // bits 0 and 13 of 14; of 15 there are none
        SpreadRows x = told("bits a 1 0; samples 64; send s a 1 0 0 8193; send t a 1 0 0 8192; send u a 1 0 0 1;");
        for (int i = 0; i < 64; i++) {
            due("wave 0 at " + i, x.wave(0, i, false), i % 14 == 0 || i % 14 == 13 ? -1 : 1);
            due("wave 1 at " + i, x.wave(1, i, false), i % 14 == 13 ? -1 : 1);
            due("wave 2 at " + i, x.wave(2, i, false), i % 14 == 0 ? -1 : 1);
        }
        // 9999 is 10011100001111
        SpreadRows y = told("bits a 2 1; samples 64; send s a 1 1 0 9999;");
        rowDue("each second", "1 1 1 1 -1 -1 -1 -1 1 1 1 -1 -1 1 1 1 1 1", p -> y.wave(0, 1 + 2 * p, false));
    }

    private static void turns() {
        sentence("13 15", "it lies at TURN: the rest by 4 of TONE times the number of whole eights in i (i by 8, rounded down): 0 re, 1 im, 2 re times -1, 3 im times -1.");
        String[] res = {"1 1 1 1", "1 0 -1 0", "1 -1 1 -1", "1 0 -1 0"};
        String[] ims = {"0 0 0 0", "0 1 0 -1", "0 0 0 0", "0 -1 0 1"};
        for (int tone = 0; tone < 4; tone++) {
            SpreadRows x = told("bits a 1 0; samples 512; send s a 1 0 " + tone + " 0;");
            // the first and the last sample of eights; 4 and 60 eights on it is the same again
            for (int i : new int[] {0, 7, 32, 39, 480, 487}) {
                rowDue("re of TONE " + tone, res[tone], k -> x.sample(i + 8 * k, false));
                rowDue("im of TONE " + tone, ims[tone], k -> x.sample(i + 8 * k, true));
                rowDue("im of the WAVE", ims[tone], k -> x.wave(0, i + 8 * k, true));
            }
        }
    }

    private static void eights() {
        sentence("13 15", "the number of whole eights in i (i by 8, rounded down)");
        SpreadRows x = told("bits a 1 0; samples 40; send s a 5 0 1 0;");
        rowDue("re", "5 5 0 0 0", i -> x.sample(6 + i, false));
        rowDue("im", "0 0 5 5 5", i -> x.sample(6 + i, true));
        rowDue("re", "0 0 -5 -5", i -> x.sample(14 + i, false));
        rowDue("im", "5 5 0 0", i -> x.sample(14 + i, true));
        rowDue("re", "-5 -5 0 0", i -> x.sample(22 + i, false));
        rowDue("im", "0 0 -5 -5", i -> x.sample(22 + i, true));
        rowDue("re", "0 0 5 5", i -> x.sample(30 + i, false));
        // eights of samples, not of what has gone by since the DELAY
        SpreadRows y = told("bits a 13 0; samples 40; send s a 5 5 1 0;");
        rowDue("re", "0 5 5 5 0", i -> y.sample(4 + i, false));
        rowDue("im", "0 0 0 0 5", i -> y.sample(4 + i, true));
    }

    private static void amplitudes() {
        sentence("13", "It comes in with its AMPLITUDE");
        SpreadRows x = told("bits a 1 0; samples 16; send s a 99 0 0 0; send t a 1 0 0 0; send u a 99 0 0 1;");
        due("sample(0, false)", x.sample(0, false), 99 + 1 - 99);
        due("sample(1, false)", x.sample(1, false), 199);
    }

    private static void echoesAhead() {
        sentence("13", "its ECHOES likewise, each as its WAVE was so many samples ahead (none ahead of sample 0), with its own AMPLITUDE.");
        SpreadRows x = told("bits a 1 0; samples 16; send s a 1 0 0 0; echo s 1 10; echo s 15 - 50; echo s 16 99; echo s 99 99;");
        due("re", re(x, 16), "1 11 11 11 11 11 11 11 11 11 11 11 11 11 11 -39");
        SpreadRows y = told("bits a 1 0; samples 512; send s a 1 0 0 0; echo s 99 99;");
        rowDue("re", "1 100 100", i -> y.sample(98 + i, false));
        // as the WAVE was: its DELAY, DATA, DRIFT of that time
        SpreadRows z = told("bits a 4 1; samples 16; send s a 1 3 0 1 drift 1; echo s 2 5;");
        rowDue("wave", "0 0 0 1 1 -1 -1 -1 -1 -1 1 1", i -> z.wave(0, i, false));
        for (int i = 2; i < 16; i++) due("with the ECHO at " + i, z.sample(i, false), z.wave(0, i, false) + 5 * z.wave(0, i - 2, false));
    }

    private static void echoesTurned() {
        sentence("13", "each as its WAVE was so many samples ahead");
        // at sample 8 the WAVE goes to im, its ECHO of sample 7 is still at re
        SpreadRows x = told("bits a 1 0; samples 24; send s a 1 0 1 0; echo s 1 3; echo s 9 - 5;");
        rowDue("re", "1 4 4 4 4 4 4 4 3 -5 -5 -5 -5 -5 -5 -5 -6 -4", i -> x.sample(i, false));
        rowDue("im", "0 0 0 0 0 0 0 0 1 4 4 4 4 4 4 4 3 -5", i -> x.sample(i, true));
    }

    private static void jamsFromTo() {
        sentence("13", "A JAM adds its AMPLITUDE to re at samples from, from + each, .. up to to.");
        due("up to 8", re(told("samples 16; jam 2 8 5 3;"), 12), "0 0 5 0 0 5 0 0 5 0 0 0");
        due("up to 7", re(told("samples 16; jam 2 7 5 3;"), 12), "0 0 5 0 0 5 0 0 0 0 0 0");
        due("up to 10", re(told("samples 16; jam 2 10 5 3;"), 12), "0 0 5 0 0 5 0 0 5 0 0 0");
        due("one", re(told("samples 16; jam 2 2 5 1;"), 4), "0 0 5 0");
        due("one, far", re(told("samples 16; jam 2 15 5 99;"), 4), "0 0 5 0");
        due("each one", re(told("samples 16; jam 0 15 99 1;"), 16), row(16, i -> 99));
        due("at re alone", im(told("samples 16; jam 0 15 99 1;"), 16), row(16, i -> 0));
        due("two", re(told("samples 16; jam 0 3 1 1; jam 1 3 10 2; jam 3 3 99 1;"), 5), "1 11 1 110 0");
        SpreadRows x = told("samples 512; jam 0 511 1 99; jam 511 511 7 1;");
        due("at 99", x.sample(99, false), 1);
        due("at 495", x.sample(495, false), 1);
        due("at 511", x.sample(511, false), 7);
        due("power", x.power(0, 511), 6 + 49);
    }

    private static void jamsBeyond() {
        sentence("13", "samples 0 .. 511, to not below from");
        due("over the last sample", re(told("samples 16; jam 14 511 7 1;"), 17), "0 0 0 0 0 0 0 0 0 0 0 0 0 0 7 7 " + NOTHING);
        due("behind it", re(told("samples 16; jam 16 511 7 1;"), 16), row(16, i -> 0));
        SpreadRows x = told("samples 16; jam 16 511 7 1;");
        due("read", read(x, "samples 512;"), 0);
        due("none of it later", x.power(0, 511), 0);
    }

    // ---- noise

    private static void noiseBounds() {
        sentence("13 17", "NOISE adds to re of sample i LOT (2 * most + 1) of which 2 * i, less most, to im likewise with 2 * i + 1.");
        for (int most : new int[] {0, 1, 2, 50}) {
            SpreadRows x = told("samples 512; noise " + most + " 77;");
            int least = 0, greatest = 0;
            for (int i = 0; i < 200; i++) {
                least = Math.min(least, Math.min(x.sample(i, false), x.sample(i, true)));
                greatest = Math.max(greatest, Math.max(x.sample(i, false), x.sample(i, true)));
            }
            due("least of " + most, least, -most);
            due("greatest of " + most, greatest, most);
        }
        for (int i : new int[] {0, 1, 255, 510, 511}) {
            SpreadRows x = told("samples 512; noise 50 9999;");
            due("re at " + i, x.sample(i, false), lot(101, 9999, 2 * i) - 50);
            due("im at " + i, x.sample(i, true), lot(101, 9999, 2 * i + 1) - 50);
        }
    }

    /** LOT in numbers without an end, cut to 32 bits where the document says so. */
    private static int lot(int n, int seed, int which) {
        BigInteger whole = BigInteger.ONE.shiftLeft(32);
        BigInteger h = BigInteger.valueOf(seed).mod(whole);
        for (int it : new int[] {21, which}) {
            h = h.xor(BigInteger.valueOf(it).mod(whole)).multiply(BigInteger.valueOf(1103515245)).add(BigInteger.valueOf(12345)).mod(whole);
            h = h.xor(h.shiftRight(15));
        }
        return h.shiftRight(1).mod(BigInteger.valueOf(n)).intValue();
    }

    private static void lots() {
        sentence("13 17", "then h and h moved 15 bits down (zeros come in), likewise; the rest of h, moved 1 bit down likewise, by n (32 bits that wrap).");
        for (int seed : new int[] {0, 1, -1, 21, 9999, MIN, MAX, MIN + 1, 0x55555555, 0xaaaaaaaa}) {
            SpreadRows x = told("samples 16;");
            due("noise(50, " + seed + ")", x.noise(50, seed), true);
            for (int i = 0; i < 16; i++) {
                due("re at " + i + " of " + seed, x.sample(i, false), lot(101, seed, 2 * i) - 50);
                due("im at " + i + " of " + seed, x.sample(i, true), lot(101, seed, 2 * i + 1) - 50);
            }
        }
    }

    // ---- promises

    private static void noSuchSample() {
        sentence("13", "A sample: re, or im; -1000000: no such one.");
        SpreadRows x = told(PLAIN);
        refused("sample(.., false)", NOTHING, i -> x.sample(i, false), -1, 16, 17, 255, 511, 512, MIN, MAX);
        refused("sample(.., true)", NOTHING, i -> x.sample(i, true), -1, 16, 17, 255, 511, 512, MIN, MAX);
        due("the last", x.sample(15, false), 3);
        due("the last", x.sample(15, true), 0);
    }

    private static void powerBounds() {
        sentence("14", "The sum of the squares of both numbers of samples from .. to");
        SpreadRows x = told("bits a 4 1; samples 16; send s a 3 0 1 0; jam 0 15 4 5;");
        due("power(0, 0)", x.power(0, 0), 1);
        due("power(0, 1)", x.power(0, 1), 10);
        due("power(15, 15)", x.power(15, 15), 25);
        due("power(14, 15)", x.power(14, 15), 34);
        due("power(0, 15)", x.power(0, 15), 1 + 49 + 25 + 25 + 12 * 9);
        SpreadRows y = told("bits a 1 0; samples 512; send s a 99 0 0 0; echo s 1 99; echo s 1 99; echo s 1 99; echo s 1 99; echo s 1 99; echo s 1 99;");
        for (int i = 0; i < 99; i++) y.add(0, 9);
        due("more than an int holds", y.power(0, 511), (long) (99 * 892) * (99 * 892) + 511L * (99 * 7 * 892) * (99 * 7 * 892));
    }

    private static void noSuchPower() {
        sentence("14", "-1: no such ones.");
        SpreadRows x = told(PLAIN);
        refused("power(.., 15)", -1, i -> x.power(i, 15), -1, 16, 17, MIN, MAX);
        refused("power(0, ..)", -1, i -> x.power(0, i), -1, 16, 17, MIN, MAX);
        refused("power(8, ..)", -1, i -> x.power(8, i), 7, 0);
        due("power(16, 16)", x.power(16, 16), -1);
        due("power(15, 14)", x.power(15, 14), -1);
    }

    private static void waveAlone() {
        sentence("15", "A SENDER's WAVE at a sample, with its AMPLITUDE (re, or im; ECHOES aside)");
        SpreadRows x = told("bits a 1 0; samples 16; send s a 99 0 1 2; send t a 1 0 0 0; echo s 1 50; jam 0 15 7 1; noise 9 9;");
        rowDue("re", "99 -99 99 99 99 99 99 99 0", i -> x.wave(0, i, false));
        rowDue("im", "0 0 0 0 0 0 0 0 99 99 99 99 99 99 99 -99", i -> x.wave(0, i, true));
        x.add(0, 9);
        x.noise(50, 5);
        due("though added", x.wave(0, 0, false), 99);
        due("the other one", x.wave(1, 15, false), 1);
    }

    private static void noSuchWave() {
        sentence("15", "(re, or im; ECHOES aside); -1000000: no such ones.");
        SpreadRows x = told(PLAIN);
        refused("wave(.., 0, false)", NOTHING, s -> x.wave(s, 0, false), -1, 1, 6, MIN, MAX);
        refused("wave(0, .., false)", NOTHING, i -> x.wave(0, i, false), -1, 16, 17, 512, MIN, MAX);
        refused("wave(0, .., true)", NOTHING, i -> x.wave(0, i, true), -1, 16, 17, 512, MIN, MAX);
        due("the last", x.wave(0, 15, false), 3);
        due("without SENDERS", new SpreadRows().wave(0, 0, true), NOTHING);
    }

    private static void addTimes() {
        sentence("16", "A SENDER's WAVE and ECHOES are added to WHAT COMES IN so many times (-9 .. 9): true");
        SpreadRows x = told("bits a 1 0; samples 16; send s a 3 0 1 0; echo s 15 2; echo s 7 - 1; send t a 5 0 0 0;");
        String first = re(x, 16) + im(x, 16);
        int[] times = {9, -9, 0, 1, -1, 8, -8};
        int all = 1;
        for (int n : times) {
            due("add(0, " + n + ")", x.add(0, n), true);
            all += n;
            due("at 0", x.sample(0, false), 3 * all + 5);
            due("at 7", x.sample(7, false), 2 * all + 5);
            due("at 15, re", x.sample(15, false), 2 * all + 5);
            due("at 15, im", x.sample(15, true), 2 * all);
        }
        due("as at first", re(x, 16) + im(x, 16), first);
        due("add(1, -1)", x.add(1, -1), true);
        due("the other one is gone", x.sample(0, false), 3);
    }

    private static void addRefused() {
        sentence("16", "so many times (-9 .. 9): true; false: no such ones.");
        SpreadRows x = told(PLAIN);
        refused("add(0, ..)", 0, n -> x.add(0, n) ? 1 : 0, -10, 10, 11, MIN, MAX);
        refused("add(.., 1)", 0, s -> x.add(s, 1) ? 1 : 0, -1, 1, 6, MIN, MAX);
        refused("add(.., 0)", 0, s -> x.add(s, 0) ? 1 : 0, -1, 1);
        due("nothing came", x.power(0, 15), 16 * 9);
    }

    private static void noiseAdded() {
        sentence("17", "NOISE of a SEED and a most (0 .. 50) is added: true");
        SpreadRows x = told(PLAIN + "noise 5 3;");
        String first = re(x, 16);
        due("noise(0, 3)", x.noise(0, 3), true);
        due("nothing of most 0", re(x, 16), first);
        int re = x.sample(7, false), im = x.sample(15, true);
        due("noise(50, MIN)", x.noise(50, MIN), true);
        due("noise(1, MAX)", x.noise(1, MAX), true);
        due("at 7", x.sample(7, false), re + lot(101, MIN, 14) - 50 + lot(3, MAX, 14) - 1);
        due("at 15, im", x.sample(15, true), im + lot(101, MIN, 31) - 50 + lot(3, MAX, 31) - 1);
        due("what was told stays", x.count(8), 5);
    }

    private static void noiseRefused() {
        sentence("17", "is added: true; false: no such one.");
        SpreadRows x = told(PLAIN);
        refused("noise(.., 1)", 0, most -> x.noise(most, 1) ? 1 : 0, -1, 51, 52, MIN, MAX);
        due("nothing came", x.power(0, 15), 16 * 9);
    }

    private static void anewAsTold() {
        sentence("18", "WHAT COMES IN is laid anew, as told: true.");
        SpreadRows x = told("bits a 4 1; samples 16; send s a 3 0 1 5; echo s 3 2; jam 2 9 7 3; noise 4 4;");
        String re = re(x, 17), im = im(x, 17);
        x.hold(1);
        x.add(0, 9);
        x.noise(50, 1);
        due("anew()", x.anew(), true);
        due("re", re(x, 17), re);
        due("im", im(x, 17), im);
        due("once more", x.anew(), true);
        due("re", re(x, 17), re);
        due("SLOTS stay", x.count(7), 1);
        // what was held goes too
        x.add(0, 1);
        x.hold(1);
        x.anew();
        due("re", re(x, 17), re);
        SpreadRows empty = new SpreadRows();
        due("anew() of nothing", empty.anew(), true);
        empty.noise(9, 9);
        empty.anew();
        due("power of nothing", empty.power(0, 255), 0);
    }

    private static void holdSlots() {
        sentence("46 48", "WHAT COMES IN is held in a SLOT (0 .. 2): true");
        SpreadRows x = told(PLAIN);
        for (int slot = 0; slot < 3; slot++) {
            due("count(7)", x.count(7), slot);
            due("hold " + slot, x.hold(slot), true);
            x.add(0, 1);
        }
        due("count(7)", x.count(7), 3);
        // each holds what came in then; a second time in place of the first
        due("hold 0", x.hold(0), true);
        due("count(7)", x.count(7), 3);
        int[] dues = {12, 6, 9};
        for (int slot = 0; slot < 3; slot++) {
            due("restore " + slot, x.restore(slot), true);
            due("sample of SLOT " + slot, x.sample(1, false), dues[slot]);
        }
    }

    private static void holdRefused() {
        sentence("46", "in a SLOT (0 .. 2): true; false: no such one.");
        SpreadRows x = told(PLAIN);
        refused("hold", 0, slot -> x.hold(slot) ? 1 : 0, -1, 3, 4, 32, -32, MIN, MAX);
        due("count(7)", x.count(7), 0);
        for (int slot = 0; slot < 3; slot++) due("restore " + slot, x.restore(slot), false);
        due("power", x.power(0, 15), 16 * 9);
    }

    private static void restoreStays() {
        sentence("47", "It is that which a SLOT holds (that stays there): true");
        SpreadRows x = told("bits a 1 0; samples 20; send s a 3 0 1 0;");
        x.hold(2);
        for (int i = 0; i < 3; i++) {
            x.add(0, 2);
            x.noise(9, i);
            due("restore(2)", x.restore(2), true);
            due("re at 0", x.sample(0, false), 3);
            due("im at 8", x.sample(8, true), 3);
            due("the last one", x.sample(19, false), -3);
            due("power", x.power(0, 19), 180);
        }
        due("count(7)", x.count(7), 1);
    }

    private static void restoreRefused() {
        sentence("47", "true; false, and nothing happens: no such one, nothing is held.");
        SpreadRows x = told(PLAIN);
        due("without any", x.restore(0), false);
        x.hold(1);
        x.add(0, 1);
        refused("restore", 0, slot -> x.restore(slot) ? 1 : 0, 0, 2, -1, 3, 4, 33, -31, MIN, MAX);
        due("nothing happened", x.power(0, 15), 16 * 36);
        due("count(7)", x.count(7), 1);
        // what a text ahead held is held no more
        due("read", read(x, PLAIN), 0);
        due("restore(1)", x.restore(1), false);
    }
}
