import java.math.BigInteger;

/** Of the document's III loops, ranges and hops, and promises 36 to 45 and 48. */
final class FollowEdges extends Kit {
    /** LENGTHS 4, 7, 6, 1, 127, 63, 13, 4. */
    private static final String LENGTHS = "bits a 4 1; reg b 3 3 1; bits d 6 1; bits e 1 0; reg f 7 3 1; reg g 6 3 1; bits h 13 0; bits i 4 0;";
    private static final String HOPS = "hop f 5 1 2; hop g 5 2 0; hop k 7 1 0; hop w 31 0 1; hop z 2 0 0; hop v 31 0 0;";

    private FollowEdges() {
    }

    static void all() {
        loopRoundTheEnds();
        loopGreaterThanBoth();
        loopGoesOn();
        loopPeriods();
        noSuchLoop();
        followsByOne();
        followsEitherWay();
        noSuchFollows();
        leastRange();
        lessCodes();
        noRange();
        noSuchRange();
        nearRests();
        nearMost();
        noSuchNear();
        hopOnAndOn();
        noSuchHop();
        hitsRound();
        noSuchHits();
        worstHitsWithItself();
        noSuchWorstHits();
        crowdedSlots();
        crowdedTwoOrMore();
        noSuchCrowded();
        jammedSlots();
        jammedBeyond();
        noSuchJammed();
        strongestLeast();
        strongestMost();
        noSuchStrongest();
        counts();
        countPeriods();
        countOthers();
    }

    // ---- LOOP

    private static void loopRoundTheEnds() {
        sentence("36", "at d - 1, d, d + 1 (rests by LENGTH)");
        // -+++ at delay 0: of the four delays that one alone has a METRIC
        SpreadRows x = told("bits a 4 1; samples 64; send s a 3 0 0 0;");
        rowDue("up over the end", "3 0 0", m -> x.loop(0, 3, 0, 4, m));
        rowDue("down", "1 0 0", m -> x.loop(0, 1, 0, 4, m));
        rowDue("too far", "2 2 2", m -> x.loop(0, 2, 0, 4, m));
        SpreadRows y = told("bits a 4 1; samples 64; send s a 3 3 0 0;");
        rowDue("down below the begin", "0 3 3", m -> y.loop(0, 0, 0, 4, m));
        rowDue("up", "2 3 3", m -> y.loop(0, 2, 0, 4, m));
        SpreadRows long127 = told("reg m 7 3 1; samples 512; send s m 3 126 0 0;");
        rowDue("down below the begin of 127", "0 126 126", m -> long127.loop(0, 0, 0, 127, m));
        rowDue("up to the end of 127", "125 126 126", m -> long127.loop(0, 125, 0, 127, m));
        // a DRIFT of 1 on and on, over the end and again: what was sent till then is behind
        SpreadRows drift = told("bits a 13 7989; samples 512; send s a 3 11 0 0 drift 1;");
        rowDue("on and on", "11 11 12 0 1 2 3 4 5 6 7 8 9 10 11 12 0 1 2 3", m -> drift.loop(0, 11, 0, 0, m));
    }

    private static void loopGreaterThanBoth() {
        sentence("36", "if that at d + 1 is greater than both others d is 1 more, if that at d - 1 is, 1 less");
        // alike ahead and behind: it stays
        SpreadRows both = told("reg m 5 5 1; samples 200; send s m 5 4 0 0; send t m 5 6 0 0;");
        due("alike", both.metric(0, 16, 31, 1), both.metric(0, 24, 31, 1));
        due("less between them", both.metric(0, 20, 31, 1) < both.metric(0, 16, 31, 1), true);
        rowDue("between two", "5 5 5", m -> both.loop(0, 5, 0, 31, m));
        rowDue("at the one", "4 4", m -> both.loop(0, 4, 0, 31, m));
        rowDue("ahead of the one", "3 4 4", m -> both.loop(0, 3, 0, 31, m));
        rowDue("behind the other", "7 6 6", m -> both.loop(0, 7, 0, 31, m));
        // alike at d and beside it: it stays
        SpreadRows beside = told("reg m 5 5 1; samples 200; send s m 5 5 0 0; send t m 5 6 0 0;");
        rowDue("alike behind it", "5 5", m -> beside.loop(0, 5, 0, 31, m));
        rowDue("alike ahead of it", "6 6", m -> beside.loop(0, 6, 0, 31, m));
        // one a little greater takes it
        SpreadRows greater = told("reg m 5 5 1; samples 200; send s m 50 4 0 0; send t m 51 6 0 0;");
        rowDue("up", "5 6 6", m -> greater.loop(0, 5, 0, 31, m));
        SpreadRows less = told("reg m 5 5 1; samples 200; send s m 51 4 0 0; send t m 50 6 0 0;");
        rowDue("down", "5 4 4", m -> less.loop(0, 5, 0, 31, m));
        // with two CHIPS both neighbours are one, with one CHIP all are
        SpreadRows few = told("bits a 1 0; bits b 2 1; samples 32; send s b 5 1 0 0; jam 0 31 1 3;");
        rowDue("one CHIP", "0 0 0", m -> few.loop(0, 0, 0, 0, m));
        rowDue("two CHIPS", "0 0 0", m -> few.loop(1, 0, 0, 2, m));
        rowDue("two CHIPS", "1 1 1", m -> few.loop(1, 1, 0, 2, m));
    }

    private static void loopGoesOn() {
        sentence("36", "1 less (a rest by LENGTH); w is LENGTH more.");
        // -+++ over two samples of 7, the first ones of a PERIOD: delays 2 and 3 have a METRIC
        SpreadRows x = told("bits a 4 1; samples 16; jam 8 9 7 1;");
        rowDue("metrics", "0 0 196 196", d -> (int) x.metric(0, 4 * d, 8, 1));
        rowDue("up in the third PERIOD", "1 1 1 2 2 2", m -> x.loop(0, 1, 0, 0, m));
        rowDue("down in the third PERIOD", "0 0 0 3 3 3", m -> x.loop(0, 0, 0, 0, m));
        rowDue("in the second one", "0 0 3 3", m -> x.loop(0, 0, 0, 4, m));
        rowDue("not one of both", "0 0 0 0 0 0", m -> x.loop(0, 0, 0, 1, m));
    }

    private static void loopPeriods() {
        sentence("36", "LOOP: the delay behind m PERIODS (0 .. 40)");
        SpreadRows x = told("bits a 13 7989; samples 512; send s a 3 5 0 0 drift 1;");
        due("m 0", x.loop(0, 12, 3, 511, 0), 12);
        due("m 1", x.loop(0, 4, 0, 0, 1), 5);
        due("m 39", x.loop(0, 5, 0, 0, 39), (5 + 38) % 13);
        due("m 40", x.loop(0, 5, 0, 0, 40) >= 0, true);
        due("m 41", x.loop(0, 5, 0, 0, 41), -1);
        // behind the last sample nothing moves it
        SpreadRows y = told("bits a 4 1; samples 16; send s a 3 0 0 0;");
        due("from the last sample on", y.loop(0, 2, 0, 15, 40), y.loop(0, 2, 0, 15, 1));
        due("from near it", y.loop(0, 3, 0, 12, 40), 0);
    }

    private static void noSuchLoop() {
        sentence("36", "the delay behind m PERIODS (0 .. 40); NONE: no such ones.");
        SpreadRows x = told("bits a 4 1; bits b 1 0; samples 16; send s a 3 0 0 0;");
        refused("loop(.., 0, 0, 0, 0)", -1, c -> x.loop(c, 0, 0, 0, 0), -1, 2, 8, MIN, MAX);
        refused("loop(0, .., 0, 0, 0)", -1, d -> x.loop(0, d, 0, 0, 0), -1, 4, 5, MIN, MAX);
        refused("loop(1, .., 0, 0, 0)", -1, d -> x.loop(1, d, 0, 0, 0), -1, 1, 2);
        refused("loop(0, 0, .., 0, 0)", -1, t -> x.loop(0, 0, t, 0, 0), -1, 4, 5, MIN, MAX);
        refused("loop(0, 0, 0, .., 0)", -1, w -> x.loop(0, 0, 0, w, 0), -1, 16, 17, 512, MIN, MAX);
        refused("loop(0, 0, 0, 0, ..)", -1, m -> x.loop(0, 0, 0, 0, m), -1, 41, 42, MIN, MAX);
        due("the last ones", x.loop(1, 0, 3, 15, 40), 0);
    }

    private static void followsByOne() {
        sentence("37", "no more than 1 (by rests of LENGTH, either way) from its DELAY at the first sample of the next one.");
        // ten PERIODS: the LOOP goes 1 behind; then nothing moves it, though the DELAY goes on
        SpreadRows x = told("bits a 13 7989; samples 130; send s a 3 5 0 0 drift 1;");
        for (int m = 0; m <= 40; m++) due("follows(0, " + m + ")", x.follows(0, m), m <= 10 ? 1 : 0);
        due("the LOOP behind ten", x.loop(0, 5, 0, 0, 10), (5 + 9) % 13);
        // without DRIFT it stays, beyond the last sample too
        SpreadRows y = told("bits a 13 7989; samples 130; send s a 3 12 0 0;");
        for (int m = 0; m <= 40; m++) due("follows(0, " + m + ")", y.follows(0, m), 1);
        // a stronger one beside it takes the LOOP 1 off, and then 2
        SpreadRows z = told("reg m 5 5 1; samples 500; send s m 1 5 0 0; send t m 9 6 0 0; send u m 1 20 0 0; send v m 9 21 0 0 drift 1;");
        rowDue("1 off", "1 1 1 1 1", m -> z.follows(0, m));
        SpreadRows lost = told("reg m 5 5 1; samples 500; send s m 1 5 0 0; send t m 9 6 0 0 drift 1;");
        rowDue("2 off from PERIOD 1 on", "1 1 0 0 0 0", m -> lost.follows(0, m));
    }

    private static void followsEitherWay() {
        sentence("37", "FOLLOWED by a SENDER for m PERIODS");
        // over the end: the LOOP at 12, the DELAY at 13, that is 0
        SpreadRows x = told("bits a 13 7989; samples 512; send s a 3 12 0 0 drift 1; send t a 1 0 3 0;");
        for (int m = 0; m <= 39; m++) due("follows(0, " + m + ")", x.follows(0, m), 1);
        // the LOOP at 0, the DELAY at 12
        SpreadRows y = told("bits a 13 7989; samples 130; send s a 1 12 0 0; send t a 9 0 0 0;");
        rowDue("either way", "1 1 1 1 1 1", m -> y.follows(0, m));
        due("the LOOP", y.loop(0, 12, 0, 0, 5), 0);
        // once lost it is so for more PERIODS too, though the LOOP comes again
        SpreadRows z = told("bits a 4 1; samples 64; send s a 1 0 0 0 drift 1; jam 0 63 1 99;");
        boolean lost = false;
        for (int m = 1; m <= 40; m++) {
            lost |= z.follows(0, m) == 0;
            due("lost at " + m, z.follows(0, m), lost ? 0 : 1);
        }
        due("lost at last", lost, true);
        SpreadRows one = told("bits a 1 0; bits b 2 1; samples 16; send s a 1 0 0 0 drift 1; send t b 1 1 0 0 drift 1;");
        due("one CHIP", one.follows(0, 40), 1);
        due("two CHIPS are never more than 1 off", one.follows(1, 40), 1);
    }

    private static void noSuchFollows() {
        sentence("37", "1 if it is FOLLOWED for m PERIODS (0 .. 40), else 0; NONE: no such ones.");
        SpreadRows x = told("bits a 4 1; samples 16; send s a 3 0 0 0;");
        refused("follows(.., 0)", -1, s -> x.follows(s, 0), -1, 1, 6, MIN, MAX);
        refused("follows(0, ..)", -1, m -> x.follows(0, m), -1, 41, 42, MIN, MAX);
        due("m 0", x.follows(0, 0), 1);
        due("m 40", x.follows(0, 40), 1);
        due("m 0 of one without a sample", told("reg m 7 3 1; samples 16; send s m 1 126 0 1;").follows(0, 0), 1);
    }

    // ---- RANGE and NEAR

    private static void leastRange() {
        sentence("38", "the least whole number whose rests by their LENGTHS are these.");
        SpreadRows x = told(LENGTHS);
        due("of 0", x.range(0, 0, 1, 0, 2, 0), 0);
        due("the most of 4 and 7", x.range(0, 3, 1, 6, -1, 0), 27);
        due("1 by 4, 2 by 7", x.range(0, 1, 1, 2, -1, 0), 9);
        due("1 by 4, 2 by 7, 3 by 6", x.range(0, 1, 1, 2, 2, 3), 9);
        due("1 by 4, 3 by 7, 5 by 6", x.range(0, 1, 1, 3, 2, 5), 17);
        due("3 by 4, 3 by 6: 12 is a round", x.range(0, 3, 2, 3, -1, 0), 3);
        due("3 by 4, 5 by 6", x.range(0, 3, 2, 5, -1, 0), 11);
        due("the most of 127, 63, 13", x.range(4, 126, 5, 62, 6, 12), 127 * 63 * 13 - 1);
        due("0, 0, 1", x.range(4, 0, 5, 0, 6, 1) % 13, 1);
        due("one CHIP says nothing", x.range(3, 0, 0, 2, 3, 0), 2);
        due("the same twice", x.range(0, 2, 7, 2, 0, 2), 2);
    }

    private static void lessCodes() {
        sentence("38", "RANGE of up to three CODES (NONE: less) and delays");
        SpreadRows x = told(LENGTHS);
        for (int d = 0; d < 4; d++) due("of one", x.range(0, d, -1, 0, -1, 0), d);
        due("of one, what else is whatever", x.range(0, 3, -1, MIN, -1, MAX), 3);
        due("of one, what else is whatever", x.range(0, 3, -1, -1, -1, 99), 3);
        due("of two, what else is whatever", x.range(0, 3, 1, 6, -1, MIN), 27);
        due("of two, what else is whatever", x.range(0, 3, 1, 6, -1, 7), 27);
    }

    private static void noRange() {
        sentence("38", "RANGE; -2: there is none");
        SpreadRows x = told(LENGTHS);
        due("1 and 2 by 4", x.range(0, 1, 7, 2, -1, 0), -2);
        due("1 by 4, 2 by 6", x.range(0, 1, 2, 2, -1, 0), -2);
        due("1 by 4, 2 by 7, 2 by 6", x.range(0, 1, 1, 2, 2, 2), -2);
        due("1 by 4, 2 by 6, 0 by 7", x.range(0, 1, 2, 2, 1, 0), -2);
        // NONE goes ahead of -2
        due("no such delay behind", x.range(0, 1, 7, 2, 1, 7), -1);
        due("no such CODE behind", x.range(0, 1, 7, 2, 8, 0), -1);
    }

    private static void noSuchRange() {
        sentence("38", "-1: no such ones (the first CODE must be, a second one ahead of a third one; delays 0 .. LENGTH - 1, that of NONE whatever).");
        SpreadRows x = told(LENGTHS);
        refused("range(.., 0, -1, 0, -1, 0)", -1, c -> x.range(c, 0, -1, 0, -1, 0), -1, 8, -2, MIN, MAX);
        refused("range(0, 0, .., 0, -1, 0)", -1, c -> x.range(0, 0, c, 0, -1, 0), 8, -2, MIN, MAX);
        refused("range(0, 0, 1, 0, .., 0)", -1, c -> x.range(0, 0, 1, 0, c, 0), 8, -2, MIN, MAX);
        due("a third one without a second one", x.range(0, 0, -1, 0, 1, 0), -1);
        due("a second one without a first one", x.range(-1, 0, 0, 0, -1, 0), -1);
        refused("range(0, .., -1, 0, -1, 0)", -1, d -> x.range(0, d, -1, 0, -1, 0), -1, 4, 5, MIN, MAX);
        refused("range(0, 0, 1, .., -1, 0)", -1, d -> x.range(0, 0, 1, d, -1, 0), -1, 7, 8, MIN, MAX);
        refused("range(0, 0, 1, 0, 2, ..)", -1, d -> x.range(0, 0, 1, 0, 2, d), -1, 6, 7, MIN, MAX);
        refused("range(3, .., -1, 0, -1, 0)", -1, d -> x.range(3, d, -1, 0, -1, 0), -1, 1);
        due("a new object", new SpreadRows().range(0, 0, -1, 0, -1, 0), -1);
    }

    private static void nearRests() {
        sentence("39", "that with the least sum of what its rests are off these delays (either way round); of alike ones the least.");
        SpreadRows x = told(LENGTHS);
        // 0 is 1 and 2 off, 1 is 0 and 1 off, 9 is just it
        rowDue("near", "0 1 1 1 1 1 1 1 1 9 9", most -> x.near(0, 1, 1, 2, most));
        // 0 is 1 off 3 by 4 the other way round, and just as far off 6 by 7
        rowDue("the other way round", "0 0 0 0 0 0", most -> x.near(0, 3, 1, 6, most));
        due("and then it is it", x.near(0, 3, 1, 6, 27), 27);
        // 6 is 1 off 3 by 4
        rowDue("not yet", "0 6 6 6", i -> x.near(0, 3, 1, 6, i == 0 ? 5 : i == 1 ? 6 : 24 + i - 1));
        // 1 and 3 by 4: 1, 2 and 3 are 2 off in all, 0 too
        due("the least", x.near(0, 1, 7, 3, 100), 0);
        due("1 by 4, 2 by 6", x.near(0, 1, 2, 2, 100), 1);
        rowDue("one alone", "0 0 0 3 3 3", most -> x.near(0, 3, -1, MIN, most));
        due("1 off 126 by 127 either way", x.near(4, 126, -1, 0, 125), 0);
        due("2 off 125 by 127 either way", x.near(4, 125, -1, 0, 123), 0);
        due("1 off 125 by 127", x.near(4, 125, -1, 0, 124), 124);
        due("one CHIP", x.near(3, 0, 3, 0, 20000), 0);
    }

    private static void nearMost() {
        sentence("39", "NEAR for a most (0 .. 20000)");
        SpreadRows x = told(LENGTHS);
        due("most 0", x.near(0, 1, 1, 2, 0), 0);
        // the last one of 127 and 63, and what is 1 less
        due("most 8000", x.near(4, 126, 5, 62, 8000), 8000);
        due("most 7999", x.near(4, 126, 5, 62, 7999), 125);
        due("most 20000", x.near(4, 126, 5, 62, 20000), 8000);
        due("most 20001", x.near(4, 126, 5, 62, 20001), -1);
    }

    private static void noSuchNear() {
        sentence("39", "NEAR (of the same ones); NONE: no such ones.");
        SpreadRows x = told(LENGTHS);
        refused("near(.., 0, 0, 0, 9)", -1, c -> x.near(c, 0, 0, 0, 9), -1, 8, -2, MIN, MAX);
        refused("near(0, 0, .., 0, 9)", -1, c -> x.near(0, 0, c, 0, 9), 8, -2, MIN, MAX);
        refused("near(0, .., 1, 0, 9)", -1, d -> x.near(0, d, 1, 0, 9), -1, 4, 5, MIN, MAX);
        refused("near(0, 0, 1, .., 9)", -1, d -> x.near(0, 0, 1, d, 9), -1, 7, 8, MIN, MAX);
        refused("near(0, 0, 1, 0, ..)", -1, most -> x.near(0, 0, 1, 0, most), -1, 20001, MIN, MAX);
        due("without a second one", x.near(0, 2, -1, MAX, 9), 2);
        due("without any", x.near(-1, 0, -1, 0, 9), -1);
    }

    // ---- HOPS

    private static void hopOnAndOn() {
        sentence("40", "CHANNEL at SLOT i (0 .. p - 1, on and on): the rest of a * i * i + b * i by p.");
        SpreadRows x = told(HOPS);
        rowDue("i * i + 2 * i by 5", "0 3 3 0 4 0 3 3 0 4 0", i -> x.hop(0, i));
        rowDue("i by 31", "0 1 29 30 0 1", i -> x.hop(3, i < 2 ? i : 27 + i));
        rowDue("0 by 2", "0 0 0 0", i -> x.hop(4, i));
        // far on, what is told is no number of 32 bits
        SpreadRows y = told("hop h 31 30 30; hop k 29 28 28; hop l 2 1 1;");
        int[] primes = {31, 29, 2};
        for (int h = 0; h < 3; h++) {
            for (int slot : new int[] {0, 1, 28, 29, 30, 31, 999, 46341, 65536, MAX - 1, MAX}) {
                BigInteger i = BigInteger.valueOf(slot), top = BigInteger.valueOf(primes[h] - 1);
                due("hop(" + h + ", " + slot + ")", y.hop(h, slot), i.multiply(i).multiply(top).add(i.multiply(top)).mod(BigInteger.valueOf(primes[h])).intValue());
            }
        }
    }

    private static void noSuchHop() {
        sentence("40", "CHANNEL of a HOP at a SLOT (0 and more); NONE: no such ones.");
        SpreadRows x = told(HOPS);
        refused("hop(.., 0)", -1, h -> x.hop(h, 0), -1, 6, 8, MIN, MAX);
        refused("hop(0, ..)", -1, slot -> x.hop(0, slot), -1, -5, MIN);
        due("a new object", new SpreadRows().hop(0, 0), -1);
    }

    private static void hitsRound() {
        sentence("41", "at how many of SLOTS 0 .. p - 1 the one's CHANNEL is that of the other one at SLOT + s.");
        // 0 3 3 0 4 and 0 2 3 3 2
        SpreadRows x = told(HOPS);
        rowDue("hits(0, 1, ..)", "-1 2 2 2 0 0 -1", s -> x.hits(0, 1, s - 1));
        rowDue("hits(1, 0, ..)", "-1 2 0 0 2 2 -1", s -> x.hits(1, 0, s - 1));
        rowDue("hits(0, 0, ..)", "-1 5 1 1 1 1 -1", s -> x.hits(0, 0, s - 1));
        rowDue("hits(4, 4, ..)", "-1 2 2 -1", s -> x.hits(4, 4, s - 1));
        rowDue("hits(3, 3, 29 ..)", "0 0 -1", s -> x.hits(3, 3, 29 + s));
        due("hits(3, 3, 0)", x.hits(3, 3, 0), 31);
        due("hits(3, 5, 30)", x.hits(3, 5, 30), 1);
    }

    private static void noSuchHits() {
        sentence("41", "HITS at a shift (0 .. p - 1); NONE: no such ones, unlike p.");
        SpreadRows x = told(HOPS);
        refused("hits(.., 0, 0)", -1, h -> x.hits(h, 0, 0), -1, 6, 8, MIN, MAX, 2, 3, 4);
        refused("hits(0, .., 0)", -1, h -> x.hits(0, h, 0), -1, 6, 8, MIN, MAX, 2, 3, 4);
        refused("hits(0, 1, ..)", -1, s -> x.hits(0, 1, s), -1, 5, 6, MIN, MAX);
        refused("hits(4, 4, ..)", -1, s -> x.hits(4, 4, s), -1, 2);
    }

    private static void worstHitsWithItself() {
        sentence("42", "WORST HITS: the greatest over all shifts (of a HOP with itself: but 0).");
        SpreadRows x = told("hop f 5 1 2; hop g 5 2 0; hop w 31 0 1; hop z 2 0 0; hop v 31 0 0; hop y 31 0 1;");
        rowDue("each with itself", "1 1 0 2 31 0", h -> x.worstHits(h, h));
        due("of two", x.worstHits(0, 1), 2);
        // another one with the same CHANNELS hits it at 0
        due("the same again", x.worstHits(2, 5), 31);
        due("the same again", x.worstHits(5, 2), 31);
        due("one CHANNEL", x.worstHits(2, 4), 1);
        // at the last shift alone: i and i + 1
        SpreadRows y = told("hop a 3 0 1; hop b 3 0 2; hop c 2 0 1; hop d 2 1 0;");
        rowDue("hits", "1 1 1", s -> y.hits(0, 1, s));
        due("of 3", y.worstHits(0, 1), 1);
        due("of 2", y.worstHits(2, 3), 2);
        due("of 2 with itself", y.worstHits(2, 2), 0);
    }

    private static void noSuchWorstHits() {
        sentence("42", "WORST HITS; NONE likewise.");
        SpreadRows x = told(HOPS);
        refused("worstHits(.., 0)", -1, h -> x.worstHits(h, 0), -1, 6, 8, MIN, MAX, 2, 3, 4);
        refused("worstHits(0, ..)", -1, h -> x.worstHits(0, h), -1, 6, 8, MIN, MAX, 2, 3, 4);
        refused("worstHits of one with itself", -1, h -> x.worstHits(h, h), -1, 6, MIN);
    }

    private static void crowdedSlots() {
        sentence("43", "CROWDED from SLOT a to b (0 .. 999) for a set of HOPS (bits)");
        // both at 0: SLOTS 0 and 2 of each five
        SpreadRows x = told(HOPS);
        rowDue("from 0 on", "1 1 2 2 2 3 3 4", b -> x.crowded(3, 0, b));
        rowDue("one SLOT", "1 0 1 0 0 1", a -> x.crowded(3, a, a));
        due("all", x.crowded(3, 0, 999), 400);
        due("the last", x.crowded(48, 999, 999), 1);
        due("0 with 0 at even ones", x.crowded(16 | 32, 0, 999), 1000);
        // SLOT 999 is 4 of 5
        due("the last of two", x.crowded(3, 995, 999), 2);
        due("no HOP", x.crowded(0, 0, 999), 0);
        due("no HOP of none", new SpreadRows().crowded(0, 0, 999), 0);
    }

    private static void crowdedTwoOrMore() {
        sentence("43", "at how many of these SLOTS two of them or more are on one CHANNEL.");
        SpreadRows x = told(HOPS);
        for (int h = 0; h < 6; h++) due("one alone", x.crowded(1 << h, 0, 999), 0);
        // three of them are no more than two; others of another p are on one CHANNEL too
        due("three", x.crowded(3 | 16, 0, 0), 1);
        due("of 31 and 2", x.crowded(8 | 16, 0, 61), 2);
        due("of 31 and 31", x.crowded(8 | 32, 1, 31), 1);
        SpreadRows high = told("hop a 31 0 1; hop b 31 30 0; hop c 2 0 1;");
        // i and -i * i: alike at 0 and 30
        rowDue("CHANNEL 30", "0 1 1", i -> high.crowded(3, 29 + i, 29 + i));
        due("a whole round", high.crowded(3, 0, 30), 2);
    }

    private static void noSuchCrowded() {
        sentence("43", "CROWDED; NONE: no such SLOTS, b below a, a HOP that there is not.");
        SpreadRows x = told("hop f 5 1 2; hop g 5 2 0;");
        refused("crowded(3, .., 999)", -1, a -> x.crowded(3, a, 999), -1, 1000, MIN, MAX);
        refused("crowded(3, 0, ..)", -1, b -> x.crowded(3, 0, b), -1, 1000, 1001, MIN, MAX);
        refused("crowded(3, 9, ..)", -1, b -> x.crowded(3, 9, b), 8, 0);
        refused("crowded(.., 0, 9)", -1, set -> x.crowded(set, 0, 9), 4, 7, 8, 64, -1, MIN, MAX, 1 << 30);
        due("1000 to 1000", x.crowded(3, 1000, 1000), -1);
        due("six of them", told(HOPS).crowded(63, 0, 9) > 0, true);
        refused("crowded without HOPS", -1, set -> new SpreadRows().crowded(set, 0, 0), 1, -1);
        due("a seventh", told(HOPS).crowded(64, 0, 9), -1);
    }

    private static void jammedSlots() {
        sentence("44", "JAMMED by a set of CHANNELS (bits): at how many SLOTS");
        // 0 3 3 0 4
        SpreadRows x = told(HOPS);
        rowDue("one CHANNEL", "2 0 0 2 1 0", c -> x.jammed(0, 1 << c));
        due("none", x.jammed(0, 0), 0);
        due("two", x.jammed(0, 1 + 8), 4);
        due("all", x.jammed(0, 31), 5);
        due("CHANNEL 30 of 31", x.jammed(3, 1 << 30), 1);
        due("all of 31", x.jammed(3, MAX), 31);
    }

    private static void jammedBeyond() {
        sentence("44", "(CHANNELS beyond p hit nothing.)");
        SpreadRows x = told(HOPS);
        for (int c = 5; c < 32; c++) due("CHANNEL " + c, x.jammed(0, 1 << c), 0);
        due("all there can be", x.jammed(0, -1), 5);
        due("all there can be", x.jammed(3, -1), 31);
        due("the 32nd", x.jammed(3, MIN), 0);
        due("all beyond 5", x.jammed(0, -32), 0);
    }

    private static void noSuchJammed() {
        sentence("44", "JAMMED; NONE: no such one.");
        SpreadRows x = told(HOPS);
        refused("jammed(.., 1)", -1, h -> x.jammed(h, 1), -1, 6, 8, MIN, MAX);
    }

    private static void strongestLeast() {
        sentence("45", "the set by which the most are JAMMED; of alike ones those with the least numbers.");
        // 0 twice, 3 twice, 4 once; 0 once, 2 twice, 3 twice
        SpreadRows x = told(HOPS);
        rowDue("of 0", "0 1 9 25 27 31 -1", k -> x.strongest(0, k));
        rowDue("of 1", "0 4 12 13 15 31 -1", k -> x.strongest(1, k));
        rowDue("all alike", "0 1 3 7 15", k -> x.strongest(3, k));
        rowDue("one CHANNEL", "0 1 3 7", k -> x.strongest(5, k));
        rowDue("of 2", "0 1 3 -1", k -> x.strongest(4, k));
        SpreadRows last = told("hop a 3 0 2; hop b 3 1 2;");
        // 0 0 2
        rowDue("0 and 2", "0 1 5 7 -1", k -> last.strongest(1, k));
    }

    private static void strongestMost() {
        sentence("45", "STRONGEST of k (0 .. 31) CHANNELS");
        SpreadRows x = told(HOPS);
        due("none", x.strongest(3, 0), 0);
        due("31 of 31", x.strongest(3, 31), MAX);
        due("31 of 31", x.strongest(5, 31), MAX);
        due("30 of 31", x.strongest(3, 30), MAX - (1 << 30));
        due("32 of 31", x.strongest(3, 32), -1);
        due("as many as p", x.strongest(0, 5), 31);
    }

    private static void noSuchStrongest() {
        sentence("45", "STRONGEST (bits); NONE: no such one, more than p.");
        SpreadRows x = told(HOPS);
        refused("strongest(.., 0)", -1, h -> x.strongest(h, 0), -1, 6, 8, MIN, MAX);
        refused("strongest(0, ..)", -1, k -> x.strongest(0, k), -1, 6, 7, 31, 32, MIN, MAX);
        refused("strongest(4, ..)", -1, k -> x.strongest(4, k), -1, 3, 4);
        refused("strongest(3, ..)", -1, k -> x.strongest(3, k), -1, 32, 33);
    }

    // ---- count

    private static void counts() {
        sentence("48", "0 CODES, 1 HOPS, 2 SENDERS, 3 ECHOES, 4 JAMS, 5 SAMPLES, 6 bytes on the tape, 7 SLOTS that hold something, 8 most of the NOISE told");
        SpreadRows x = told("bits a 4 1; hop f 5 1 2; hop g 7 2 0; send s a 1 0 0 0; send t a 1 0 0 0; send u a 1 0 0 0; echo s 1 1; echo s 1 1; echo t 1 1; echo t 1 1;"
            + "jam 0 0 1 1; jam 0 0 1 1; samples 99; noise 7 1;");
        rowDue("counts", "1 2 3 4 2 99 0 0 7", x::count);
        write(x, "tail");
        x.hold(0);
        x.hold(2);
        // noise that is added is not told
        x.noise(50, 1);
        rowDue("counts", "1 2 3 4 2 99 4 2 7", x::count);
        SpreadRows none = new SpreadRows();
        rowDue("of nothing", "0 0 0 0 0 256 0 0 0", none::count);
    }

    private static void countPeriods() {
        sentence("48", "10 and a SENDER: how many PERIODS have a sample, 20 and a HOP: its p.");
        SpreadRows x = told("reg m 7 3 1; bits o 1 0; bits q 4 1; samples 16; send sa m 1 16 0 0; send sb m 1 15 0 0; send sc o 1 0 0 0;"
            + "send sd o 1 0 0 0 drift 2; send se q 1 0 0 0; send sf q 1 3 0 0;" + HOPS);
        rowDue("PERIODS", "-1 0 1 16 9 4 4 -1", s -> x.count(9 + s));
        rowDue("primes", "-1 5 5 7 31 2 31 -1", h -> x.count(19 + h));
        SpreadRows y = told("bits f 4 1; samples 17; send s f 1 0 0 0; send t f 1 1 0 0;");
        rowDue("PERIODS", "5 4 -1", s -> y.count(10 + s));
    }

    private static void countOthers() {
        sentence("48", "NONE for others.");
        SpreadRows x = told("bits a 4 1; hop f 5 1 2; send s a 1 0 0 0;");
        refused("count", -1, x::count, 9, 11, 12, 15, 16, 19, 21, 25, 26, 30, -1, -10, MIN, MAX);
        due("SENDER 0", x.count(10), 64);
        due("HOP 0", x.count(20), 5);
    }
}
