/** Of the document's III what is READ, joined, hurt and taken out, and promises 28 to 35. */
final class ReadEdges extends Kit {
    /** A PERIOD of 4 samples, four of them. */
    private static final String PLAIN = "bits a 4 1; samples 16; send s a 3 0 0 5;";
    /** A strong SENDER over a weak one that is not unlike it. */
    private static final String TWO = "bits a 4 8; bits b 4 0; samples 16; send s a 9 0 0 0; send w b 2 0 0 1;";
    /** It has no sample at all. */
    private static final String LATE = "reg m 7 3 1; samples 16; send s m 1 16 0 1;";

    private ReadEdges() {
    }

    static void all() {
        belowZero();
        inThatPeriod();
        asTheWaveLies();
        dataNotLookedAt();
        periodWithoutSamples();
        noSuchBit();
        wrongPeriods();
        wrongRoundOfData();
        noSuchWrong();
        joinedAmplitudes();
        joinedAsTheWaveWas();
        joinedIfASample();
        joinedBelowZero();
        noSuchJoined();
        frameLowestFirst();
        frameToTheEnd();
        noSuchFrame();
        hurtFirstSample();
        hurtAsFarAsThereAre();
        hurtWidths();
        hurtAmplitudes();
        hurtLeavesIt();
        noSuchHurt();
        takenByAmplitude();
        takenInTurn();
        takenWithTheseBits();
        takenStays();
        noSuchTaken();
        restOfAll();
        noSuchRest();
        atOnceRounds();
        atOnceOthers();
        noSuchRounds();
    }

    // ---- READ

    private static void belowZero() {
        sentence("28", "1 if that is below 0, else 0.");
        // 4 of the WAVE, less a JAM at a CHIP of -1
        for (int jam = 3; jam <= 5; jam++) {
            SpreadRows x = told("bits a 4 1; samples 16; send s a 1 0 0 0; jam 0 0 " + jam + " 1;");
            due("a sum of " + (4 - jam), x.bit(0, 0), jam == 5 ? 1 : 0);
        }
        SpreadRows y = told(PLAIN);
        y.add(0, -1);
        rowDue("sums of 0", "0 0 0 0 -2", p -> y.bit(0, p));
        due("wrong, sums of 0", y.wrong(0), 2);
    }

    private static void inThatPeriod() {
        sentence("28", "the sum over samples at which its WAVE is in that PERIOD of WHAT COMES IN");
        // all CHIPS are -1; samples ahead of the DELAY are in no PERIOD
        SpreadRows x = told("bits a 4 15; samples 16; send s a 1 2 0 0; jam 0 1 99 1; jam 10 10 5 1;");
        rowDue("bits", "0 0 1 0 -2", p -> x.bit(0, p));
        SpreadRows first = told("bits a 4 15; samples 16; send s a 1 2 0 0; jam 6 6 5 1;");
        rowDue("the first sample of PERIOD 1", "0 1 0 0 -2", p -> first.bit(0, p));
        SpreadRows last = told("bits a 4 15; samples 16; send s a 1 2 0 0; jam 5 5 5 1; jam 15 15 3 1;");
        rowDue("the last samples of PERIODS 0 and 3", "1 0 0 1 -2", p -> last.bit(0, p));
        // a DRIFT makes PERIOD 0 five samples long: 2 to 6
        SpreadRows drift = told("bits a 4 15; samples 16; send s a 1 2 0 0 drift 1; jam 6 6 6 1;");
        rowDue("bits", "1 0 0 -2", p -> drift.bit(0, p));
    }

    private static void asTheWaveLies() {
        sentence("28", "re or im as the WAVE lies, times CHIP and its turn's sign");
        // eights at re, im, re times -1, im times -1: a JAM of re turns only what lies at re with CHIP and sign
        for (int t = 0; t < 4; t++) {
            SpreadRows x = told("bits a 8 255; samples 32; send s a 1 0 " + t + " 0; jam 0 31 2 1;");
            String[] dues = {"1 1 1 1", "1 0 0 0", "1 0 1 0", "1 0 0 0"};
            rowDue("bits of TONE " + t, dues[t] + " -2", p -> x.bit(0, p));
        }
    }

    private static void dataNotLookedAt() {
        sentence("28", "(DATA not looked at)");
        SpreadRows x = told("bits a 2 1; samples 64; send s a 3 0 1 9999;");
        // 9999 is 10011100001111, its lowest bit first, and again
        String data = "1 1 1 1 0 0 0 0 1 1 1 0 0 1 1 1 1 1 0 0";
        rowDue("as it came", data, p -> x.bit(0, p));
        x.add(0, -2);
        rowDue("as it came turned", data.replace('1', 'x').replace('0', '1').replace('x', '0'), p -> x.bit(0, p));
        x.add(0, 1);
        rowDue("nothing", "0 0 0 0 0 0 0 0 0 0", p -> x.bit(0, p));
    }

    private static void periodWithoutSamples() {
        sentence("28", "READ of a PERIOD; -2: the PERIOD has no sample; NONE: no such ones.");
        SpreadRows x = told(PLAIN);
        refused("bit(0, ..)", -2, p -> x.bit(0, p), 4, 5, 13, 14, 15, 512, MAX);
        due("the last", x.bit(0, 3), 0);
        // one sample is enough
        SpreadRows y = told("bits a 5 0; samples 16; send s a 1 0 0 8;");
        rowDue("bits", "0 0 0 1 -2", p -> y.bit(0, p));
        SpreadRows late = told(LATE + "send t m 1 15 0 1;");
        rowDue("none at all", "-2 -2", p -> late.bit(0, p));
        rowDue("one", "1 -2", p -> late.bit(1, p));
    }

    private static void noSuchBit() {
        sentence("28", "Where NONE and -2 could both be told, it is NONE, if it is not told otherwise.");
        SpreadRows x = told(PLAIN);
        refused("bit(0, ..)", -1, p -> x.bit(0, p), -1, -2, MIN);
        refused("bit(.., 0)", -1, s -> x.bit(s, 0), -1, 1, 6, MIN, MAX);
        refused("bit(.., 99)", -1, s -> x.bit(s, 99), -1, 1, 6, MIN, MAX);
        due("a PERIOD below 0 of none at all", told(LATE).bit(0, -1), -1);
    }

    private static void wrongPeriods() {
        sentence("29", "WRONG: in how many PERIODS (those that have a sample) READ is not the DATA's bit.");
        SpreadRows x = told("bits a 4 1; samples 18; send s a 3 0 0 8191;");
        due("none", x.wrong(0), 0);
        x.add(0, -1);
        due("five of 13", x.wrong(0), 5);
        x.add(0, -9);
        due("all five", x.wrong(0), 5);
        SpreadRows late = told(LATE + "send t m 1 15 0 1;");
        due("without a sample", late.wrong(0), 0);
        late.add(1, -9);
        due("one", late.wrong(1), 1);
    }

    private static void wrongRoundOfData() {
        sentence("29", "READ is not the DATA's bit.");
        SpreadRows x = told("bits a 1 0; samples 32; send s a 1 0 2 8192;");
        due("none of 32", x.wrong(0), 0);
        x.add(0, -1);
        due("13 and 27", x.wrong(0), 2);
        x.add(0, -1);
        due("all of 32", x.wrong(0), 32);
    }

    private static void noSuchWrong() {
        sentence("29", "WRONG; NONE: no such one.");
        SpreadRows x = told(PLAIN);
        refused("wrong", -1, x::wrong, -1, 1, 6, MIN, MAX);
        due("the one", x.wrong(0), 0);
    }

    // ---- JOINED

    private static void joinedAmplitudes() {
        sentence("30", "of READ's times the SENDER's AMPLITUDE, and, over these samples and each ECHO, of what came in that many samples later"
            + " (if that is a sample), turned and signed as the WAVE was, times the ECHO's AMPLITUDE.");
        // 3 at a CHIP of -1 times 2, and jam times -1 times -3: below 0 till jam is 2
        for (int jam = 1; jam <= 3; jam++) {
            SpreadRows x = told("bits a 1 1; samples 16; send s a 2 0 0 0; echo s 4 - 3; jam 0 0 3 1; jam 4 4 " + jam + " 1;");
            x.add(0, -1);
            due("joined, a sum of " + (3 * jam - 6), x.joined(0, 0), jam == 1 ? 1 : 0);
        }
        // two ECHOES: 1, less 2 times 5, and jam more: below 0 till jam is 9
        for (int jam = 8; jam <= 10; jam++) {
            SpreadRows x = told("bits a 1 0; samples 16; send s a 1 0 0 0; echo s 4 - 2; echo s 5 1; jam 0 0 1 1; jam 4 4 5 1; jam 5 5 " + jam + " 1;");
            x.add(0, -1);
            due("joined, a sum of " + (jam - 9), x.joined(0, 0), jam == 8 ? 1 : 0);
            due("READ alone", x.bit(0, 0), 0);
        }
    }

    private static void joinedAsTheWaveWas() {
        sentence("30", "turned and signed as the WAVE was");
        // sample 7 lies at re, its ECHO at 8 too; sample 8 lies at im
        SpreadRows x = told("bits a 8 255; samples 16; send s a 1 0 1 0; echo s 1 9; jam 8 8 5 1;");
        x.add(0, -1);
        rowDue("joined", "1 0 -2", p -> x.joined(0, p));
        rowDue("bits", "0 0 -2", p -> x.bit(0, p));
        // from 16 on TONE 1 lies at re times -1
        SpreadRows y = told("bits a 8 0; samples 32; send s a 1 0 1 0; echo s 1 9; jam 24 24 5 1;");
        y.add(0, -1);
        rowDue("joined", "0 0 1 0 -2", p -> y.joined(0, p));
    }

    private static void joinedIfASample() {
        sentence("30", "(if that is a sample)");
        // a text ahead had samples there, of the other sign
        SpreadRows x = new SpreadRows();
        due("read", read(x, "samples 512; bits a 1 1; send s a 99 0 0 0; jam 0 511 1 1;"), 0);
        due("read", read(x, "bits a 4 0; samples 16; send s a 1 0 0 0; echo s 1 99; echo s 16 99; echo s 99 - 99;"), 0);
        x.add(0, -1);
        rowDue("joined of nothing", "0 0 0 0 -2", p -> x.joined(0, p));
        // ECHOES of the last PERIOD that are samples, and that are none
        SpreadRows y = told("bits a 4 15; samples 16; send s a 1 0 0 0; echo s 3 1; echo s 4 99; jam 15 15 2 1;");
        y.add(0, -1);
        rowDue("joined", "0 0 1 1 -2", p -> y.joined(0, p));
        SpreadRows z = told("bits a 4 15; samples 16; send s a 1 0 0 0; echo s 4 99; echo s 15 7; jam 15 15 2 1;");
        z.add(0, -1);
        rowDue("joined", "1 0 1 1 -2", p -> z.joined(0, p));
    }

    private static void joinedBelowZero() {
        sentence("30", "JOINED: likewise, by the WAVE of that PERIOD and its ECHOES together");
        SpreadRows x = told(PLAIN);
        rowDue("without ECHOES as READ", "1 0 1 0 -2", p -> x.joined(0, p));
        x.add(0, -1);
        rowDue("sums of 0", "0 0 0 0 -2", p -> x.joined(0, p));
        // one sample, as loud as it can get in 512 calls, is more than an int holds
        SpreadRows y = new SpreadRows();
        read(y, "bits a 1 0; samples 16; send s a 99 0 0 0; echo s 1 99; echo s 2 99; echo s 3 99; echo s 4 99; echo s 5 99; echo s 6 99;");
        for (int i = 0; i < 498; i++) y.add(0, 9);
        due("a loud sample", 7L * 99 * y.sample(6, false) > MAX, true);
        due("joined of a loud one", y.joined(0, 6), 0);
    }

    private static void noSuchJoined() {
        sentence("30", "JOINED; -2, NONE as bit().");
        SpreadRows x = told(PLAIN);
        refused("joined(0, ..)", -2, p -> x.joined(0, p), 4, 5, 14, 512, MAX);
        refused("joined(0, ..)", -1, p -> x.joined(0, p), -1, -2, MIN);
        refused("joined(.., 0)", -1, s -> x.joined(s, 0), -1, 1, 6, MIN, MAX);
        refused("joined(.., 99)", -1, s -> x.joined(s, 99), -1, 1, 6, MIN, MAX);
        due("none at all", told(LATE).joined(0, 0), -2);
        due("none at all", told(LATE).joined(0, -1), -1);
    }

    // ---- FRAME

    private static void frameLowestFirst() {
        sentence("31", "FRAME of n bits (1 .. 13; told as a number, its lowest bit first): the first PERIOD from which on READ tells them, PERIOD by PERIOD.");
        // 0 0 1 1 0 1 0 0 1 1 0 1 1 0 and 0 0
        SpreadRows x = told("bits a 1 0; samples 16; send s a 1 0 0 6956;");
        rowDue("READ", "0 0 1 1 0 1 0 0 1 1 0 1 1 0 0 0 -2", p -> x.bit(0, p));
        rowDue("of 1", "0 2", b -> x.frame(0, b, 1));
        rowDue("of 2", "0 3 1 2", b -> x.frame(0, b, 2));
        rowDue("of 3", "13 5 4 2 0 3 1 -2", b -> x.frame(0, b, 3));
        due("of 13", x.frame(0, 6956, 13), 0);
        due("of 13", x.frame(0, 3478, 13), 1);
        due("of 13", x.frame(0, 1739, 13), 2);
        due("of 13", x.frame(0, 869, 13), 3);
        due("of 13, not there", x.frame(0, 870, 13), -2);
    }

    private static void frameToTheEnd() {
        sentence("31", "FRAME: the PERIOD; -2: none; NONE: no such ones");
        SpreadRows x = told("bits a 1 0; samples 16; send s a 1 0 0 0;");
        for (int n = 1; n <= 13; n++) due("zeros, " + n, x.frame(0, 0, n), 0);
        // the last PERIODS end it: there are no zeros beyond
        SpreadRows y = told("bits a 4 0; samples 16; send s a 1 0 0 7;");
        due("one 0 at the end", y.frame(0, 0, 1), 3);
        due("two", y.frame(0, 0, 2), -2);
        due("1 and 0", y.frame(0, 1, 2), 2);
        due("1, 0 and 0", y.frame(0, 1, 3), -2);
        due("as many as there are", y.frame(0, 7, 4), 0);
        due("one more", y.frame(0, 7, 5), -2);
        due("none at all", told(LATE).frame(0, 0, 1), -2);
    }

    private static void noSuchFrame() {
        sentence("31", "NONE: no such ones (bits below 2 to the n).");
        SpreadRows x = told(PLAIN);
        refused("frame(0, 0, ..)", -1, n -> x.frame(0, 0, n), 0, -1, 14, 15, 31, 32, 33, MIN, MAX);
        for (int n = 1; n <= 13; n++) {
            int bits = n;
            refused("frame(0, .., " + n + ")", -1, b -> x.frame(0, b, bits), -1, 1 << n, 2 << n, MIN, MAX);
            due("the most of " + n, x.frame(0, (1 << n) - 1, n), n == 1 ? 0 : -2);
        }
        refused("frame(.., 0, 1)", -1, s -> x.frame(s, 0, 1), -1, 1, 6, MIN, MAX);
        // NONE goes ahead of -2
        due("none at all, a wrong n", told(LATE).frame(0, 0, 14), -1);
        due("none at all, wrong bits", told(LATE).frame(0, 2, 1), -1);
    }

    // ---- HURT

    private static void hurtFirstSample() {
        sentence("32", "the first sample from which a pulse of it");
        // each PERIOD's sum is 12, all CHIPS are -1
        SpreadRows x = told("bits a 4 15; samples 16; send s a 3 0 0 0;");
        hurtDue(x, 4, 3, 0, 0);
        hurtDue(x, 4, 4, 0, 1);
        hurtDue(x, 1, 12, 0, 0);
        hurtDue(x, 1, 13, 0, 1);
        // the last sample of PERIOD 0 with the first one of PERIOD 1
        hurtDue(x, 2, 13, 3, 2);
        hurtDue(x, 6, 13, 3, 3);
        hurtDue(x, 8, 4, 0, 2);
        // the last PERIOD alone is weak
        SpreadRows weak = told("bits a 4 7; samples 16; send s a 3 0 0 0; jam 3 11 9 4;");
        hurtDue(weak, 1, 13, 12, 1);
        hurtDue(weak, 3, 5, 12, 1);
    }

    private static void hurtDue(SpreadRows x, int width, int amplitude, int sample, int wrong) {
        String call = "hurt(0, " + width + ", " + amplitude + ", ";
        due(call + "0)", x.hurt(0, width, amplitude, 0), sample);
        due(call + "1)", x.hurt(0, width, amplitude, 1), wrong);
    }

    private static void hurtAsFarAsThereAre() {
        sentence("32", "(so many samples, of re, as far as there are samples)");
        // +++-: a pulse over a whole PERIOD helps it, the last sample alone hurts it; the others are too strong
        SpreadRows x = told("bits a 4 8; samples 16; send s a 1 0 0 0; jam 0 8 9 4;");
        hurtDue(x, 1, 5, 15, 1);
        hurtDue(x, 99, 5, 15, 1);
        hurtDue(x, 2, 4, 0, 0);
        // what lies at im is not hurt: eights at re, im, re times -1
        SpreadRows y = told("bits a 8 255; samples 24; send s a 1 0 1 0;");
        hurtDue(y, 99, 9, 0, 1);
        SpreadRows z = told("bits a 8 0; samples 24; send s a 1 0 1 0;");
        hurtDue(z, 8, 2, 13, 1);
        hurtDue(z, 4, 2, 0, 0);
    }

    private static void hurtWidths() {
        sentence("32", "HURT by a JAM of a width (1 .. 99) and an AMPLITUDE");
        // one PERIOD of 127 samples: so many samples of 99 are more than 127 * 77 less
        SpreadRows x = told("reg m 7 64 127; samples 127; send s m 77 0 0 0;");
        hurtDue(x, 99, 99, 0, 1);
        hurtDue(x, 98, 99, 0, 0);
        SpreadRows y = told("bits a 1 1; samples 16; send s a 98 0 0 0;");
        hurtDue(y, 1, 99, 0, 1);
        hurtDue(y, 1, 98, 0, 0);
        refused("hurt(0, .., 99, 0)", -1, w -> y.hurt(0, w, 99, 0), 0, -1, 100, 101, MIN, MAX);
    }

    private static void hurtAmplitudes() {
        sentence("32", "NONE: no such ones (AMPLITUDE 1 .. 99).");
        SpreadRows x = told("bits a 1 1; samples 16; send s a 1 0 0 0;");
        hurtDue(x, 1, 1, 0, 0);
        hurtDue(x, 1, 2, 0, 1);
        refused("hurt(0, 1, .., 0)", -1, a -> x.hurt(0, 1, a, 0), 0, -1, 100, 101, MIN, MAX);
        refused("hurt(0, 1, .., 1)", -1, a -> x.hurt(0, 1, a, 1), 0, -1, 100, 101, MIN, MAX);
    }

    private static void hurtLeavesIt() {
        sentence("32", "makes the most PERIODS of a SENDER WRONG.");
        // --++: one PERIOD is WRONG without it and stays so
        SpreadRows x = told("bits a 4 3; samples 16; send s a 1 0 0 0; jam 0 0 9 1;");
        due("wrong ahead", x.wrong(0), 1);
        hurtDue(x, 1, 4, 0, 1);
        hurtDue(x, 1, 5, 4, 2);
        // from 0 on the pulse mends it, from 2 on too
        hurtDue(x, 99, 9, 0, 1);
        SpreadRows y = told("bits a 4 3; samples 16; send s a 1 0 0 0; jam 1 1 5 1; jam 4 12 9 4;");
        due("all are wrong ahead", y.wrong(0), 4);
        hurtDue(y, 1, 99, 0, 4);
        hurtDue(y, 2, 99, 0, 4);
        long power = x.power(0, 15);
        x.hurt(0, 99, 99, 0);
        due("what comes in stays", x.power(0, 15), power);
        due("wrong behind", x.wrong(0), 1);
        // wherever it begins it mends one of 16: none begins behind the last sample
        SpreadRows mended = told("bits a 1 0; samples 16; send s a 1 0 0 0;");
        mended.add(0, -2);
        hurtDue(mended, 1, 9, 0, 15);
        due("none at all", told(LATE).hurt(0, 9, 9, 0), 0);
        due("none at all", told(LATE).hurt(0, 9, 9, 1), 0);
    }

    private static void noSuchHurt() {
        sentence("32", "HURT: what 0 the sample, 1 how many are WRONG then; NONE: no such ones");
        SpreadRows x = told(PLAIN);
        refused("hurt(.., 1, 1, 0)", -1, s -> x.hurt(s, 1, 1, 0), -1, 1, 6, MIN, MAX);
        refused("hurt(0, 1, 1, ..)", -1, what -> x.hurt(0, 1, 1, what), -1, 2, 3, MIN, MAX);
    }

    // ---- TAKEN OUT, AT ONCE

    private static void takenByAmplitude() {
        sentence("34 35", "TAKEN OUT: SENDERS by AMPLITUDE, the greatest first, of alike ones by numbers");
        SpreadRows x = told("bits a 4 1; send s a 5 0 0 0; send t a 9 1 0 0; send u a 5 2 0 0; send v a 9 3 0 0; send w a 1 0 0 0; send x a 6 0 0 0;");
        rowDue("which is i-th", "-1 1 3 5 0 2 4 -1", i -> x.taken(1, i - 1));
        SpreadRows alike = told("bits a 4 1; send s a 5 0 0 0; send t a 5 1 0 0; send u a 5 2 0 0; send v a 5 3 0 0; send w a 5 0 0 0; send x a 5 0 0 0;");
        rowDue("all alike", "0 1 2 3 4 5 -1", i -> alike.taken(1, i));
        SpreadRows up = told("bits a 4 1; send s a 1 0 0 0; send t a 98 1 0 0; send u a 99 2 0 0;");
        rowDue("the last first", "2 1 0 -1", i -> up.taken(1, i));
    }

    private static void takenInTurn() {
        sentence("34", "each in turn: all its PERIODS are READ from what is left");
        SpreadRows x = told(TWO);
        due("the weak one as it comes in", x.wrong(1), 1);
        due("behind the strong one", x.taken(0, 0), 0);
        // two alike: the first by number goes first, with 0s, and leaves the other one turned
        SpreadRows y = told("bits a 4 0; samples 16; send s a 3 0 0 0; send t a 3 0 0 15;");
        due("the first goes with 0s", y.taken(0, 0), 0);
        SpreadRows z = told("bits a 4 0; samples 16; send s a 3 0 0 15; send t a 3 0 0 0;");
        due("though it sent 1s", z.taken(0, 0), 8);
    }

    private static void takenWithTheseBits() {
        sentence("34 35", "then its WAVE, with these bits instead of DATA, and its ECHOES likewise, are taken away from what is left.");
        SpreadRows x = told(TWO);
        rowDue("rest", "1504 64 0 -1", n -> (int) x.rest(n));
        due("none is wrong", x.taken(0, 0), 0);
        // sent turned: 36 less turned is READ as 1 and goes as it came
        x.add(0, -2);
        rowDue("rest", "1216 64 0 -1", n -> (int) x.rest(n));
        due("four are wrong", x.taken(0, 0), 4);
        // a sum of 0 goes as a 0: what was nothing is the WAVE turned
        SpreadRows none = told("bits a 4 1; samples 16; send s a 3 0 0 15;");
        none.add(0, -1);
        rowDue("rest", "0 144 -1", n -> (int) none.rest(n));
        due("four are wrong", none.taken(0, 0), 4);
        // the weak one's PERIODS are what went away: three of its four bits are 0
        SpreadRows nothing = told(TWO);
        nothing.add(0, -1);
        nothing.add(1, -1);
        due("three are wrong", nothing.taken(0, 0), 3);
        // a sum of -1 goes as a 1, a sum of 1 as a 0
        SpreadRows least = told("bits a 1 0; samples 16; send s a 1 0 2 9999;");
        rowDue("rest", "16 0 -1", n -> (int) least.rest(n));
        // ECHOES over the PERIOD's end with the bit of their own PERIOD; a JAM stays
        SpreadRows y = told("bits a 4 1; samples 24; send s a 9 0 1 10; echo s 3 - 2; echo s 7 1; jam 20 23 1 1;");
        due("with ECHOES", y.rest(1), 4);
    }

    private static void takenStays() {
        sentence("34", "TAKEN OUT (WHAT COMES IN stays)");
        SpreadRows x = told(TWO + "noise 1 1;");
        long power = x.power(0, 15);
        String samples = row(16, i -> x.sample(i, false));
        x.taken(0, 0);
        x.taken(1, 1);
        x.rest(2);
        x.atOnce(6);
        due("power", x.power(0, 15), power);
        due("samples", row(16, i -> x.sample(i, false)), samples);
    }

    private static void noSuchTaken() {
        sentence("34", "what 0 how many bits are READ WRONG in all, 1 which SENDER is i-th; NONE: no such ones.");
        SpreadRows x = told(TWO);
        refused("taken(1, ..)", -1, i -> x.taken(1, i), -1, 2, 3, 6, MIN, MAX);
        refused("taken(.., 0)", -1, what -> x.taken(what, 0), -1, 2, 3, MIN, MAX);
        SpreadRows none = new SpreadRows();
        due("without SENDERS", none.taken(0, 0), 0);
        refused("without SENDERS, i-th", -1, i -> none.taken(1, i), 0, -1, 1);
    }

    private static void restOfAll() {
        sentence("35", "The sum of squares (as power()) of all samples of what is left behind so many SENDERS");
        SpreadRows x = told(TWO + "jam 15 15 7 1;");
        due("rest(0)", x.rest(0), x.power(0, 15));
        due("rest(2)", x.rest(2), 49);
        SpreadRows y = told("bits a 1 0; samples 512; send s a 99 0 0 0; send t a 9 0 1 0;");
        due("rest(2)", y.rest(2), 0);
        for (int i = 0; i < 60; i++) y.add(0, 9);
        due("more than an int holds", y.rest(0), y.power(0, 511));
        due("more than an int holds", y.rest(0) > MAX, true);
        due("rest of nothing", new SpreadRows().rest(0), 0);
    }

    private static void noSuchRest() {
        sentence("35", "-1: not so many.");
        SpreadRows x = told(TWO);
        refused("rest", -1, x::rest, -1, 3, 6, MIN, MAX);
        refused("rest without SENDERS", -1, n -> new SpreadRows().rest(n), 1, -1);
    }

    private static void atOnceRounds() {
        sentence("33", "AT ONCE in r rounds (1 .. 6): in round 1 all SENDERS' PERIODS are READ from WHAT COMES IN");
        SpreadRows x = told(TWO);
        // the weak one's PERIOD 0 is 18 less 8: a 0
        rowDue("by rounds", "-1 1 0 0 0 0 0 -1", x::atOnce);
        due("as READ", x.wrong(0) + x.wrong(1), 1);
        SpreadRows none = new SpreadRows();
        rowDue("without SENDERS", "-1 0 0 0 0 0 0 -1", none::atOnce);
    }

    private static void atOnceOthers() {
        sentence("33", "in each later one those of each SENDER from WHAT COMES IN less the WAVES and ECHOES of all others with the bits of the round ahead.");
        // its own ECHO is no other one's: it stays and hurts each PERIOD, 4 less 36
        SpreadRows own = told("bits a 4 0; samples 16; send s a 1 0 0 0; echo s 4 - 9;");
        rowDue("by rounds", "-1 3 3 3 3 3 3 -1", own::atOnce);
        // the ECHO of another one, that turns PERIOD 0, goes in round 2
        SpreadRows other = told("bits a 4 0; bits b 4 5; samples 16; send s a 1 0 0 0; send t b 9 0 0 0; echo t 1 8; jam 0 0 1 1;");
        rowDue("by rounds", "-1 1 0 0 0 0 0 -1", other::atOnce);
        // the strong one sent 1s: by them the weak one is READ in round 2
        SpreadRows ones = told("bits a 4 8; bits b 4 0; samples 16; send s a 9 0 0 15; send w b 2 0 0 1;");
        rowDue("by rounds", "-1 3 0 0 0 0 0 -1", ones::atOnce);
        // three that take some rounds: 9 hides 4, 4 hides 1
        SpreadRows chain = told("bits a 4 8; bits b 4 0; bits c 4 1; samples 16; send s a 9 0 0 6; send t b 4 0 0 9; send u c 1 0 0 5;");
        rowDue("by rounds", "-1 5 2 0 0 0 0 -1", chain::atOnce);
        // sums of 0 go as 0s
        SpreadRows nothing = told(TWO);
        nothing.add(0, -1);
        nothing.add(1, -1);
        rowDue("by rounds of nothing", "-1 1 7 1 7 1 7 -1", nothing::atOnce);
        // two that turn one another from round to round: 4 and 3 of one row, sent with unlike bits
        SpreadRows y = told("bits a 4 0; samples 16; send s a 4 0 0 0; send t a 3 0 0 15;");
        rowDue("by rounds", "-1 4 4 4 4 4 4 -1", y::atOnce);
        SpreadRows z = told("bits a 4 0; samples 16; send s a 3 0 0 0; send t a 3 0 0 15;");
        rowDue("by rounds", "-1 4 4 4 4 4 4 -1", z::atOnce);
    }

    private static void noSuchRounds() {
        sentence("33", "AT ONCE: how many bits are READ WRONG in the last of r rounds, in all; NONE: no such r.");
        SpreadRows x = told(TWO);
        refused("atOnce", -1, x::atOnce, 0, -1, 7, 8, MIN, MAX);
    }
}
