import java.math.BigInteger;
import java.util.function.IntPredicate;

/** Of the document's II the search for a row, and promises 19 to 27. */
final class SearchEdges extends Kit {
    private static final int NO_SUM = -1000000000;
    /** ++++ and as many ones as there are samples. */
    private static final String ONES = "bits a 4 0; bits b 13 0; bits c 1 0; samples 16; jam 0 15 1 1;";
    /** -+++ from sample 1 on: in samples 0 to 3 it is found at delay 1, in each TONE. */
    private static final String LATE = "bits a 4 1; samples 32; send s a 3 1 0 0;";

    private SearchEdges() {
    }

    static void all() {
        chipsRoundTheEnd();
        turnedBack();
        beyondTheLastOne();
        acrossTheLastOne();
        noSuchSum();
        periodsOfMetric();
        bothNumbers();
        noSuchMetric();
        theLeastCell();
        theLastCell();
        noSuchBest();
        gaps();
        eitherWayRound();
        anotherTone();
        loudOnes();
        noSuchSecond();
        theLeastDelay();
        noSuchPeak();
        thresholds();
        noSuchAlarms();
        lookedAt();
        stepsRound();
        noneHasIt();
        noSuchPlan();
        meanBounds();
        meanLessened();
        noSuchCells();
        noSuchChances();
        noSuchCosts();
        overWays();
        overLongWays();
        noSuchOver();
        atMost512Calls();
    }

    private static String sums(SpreadRows x, int d, int w) {
        return row(8, i -> x.sum(0, d, i / 2, w, i % 2 == 1));
    }

    // ---- SUM and METRIC

    private static void chipsRoundTheEnd() {
        sentence("19", "times CHIP k - d (its rest by LENGTH)");
        // -+++ and one sample of 7
        SpreadRows x = told("bits a 4 1; samples 32; jam 5 5 7 1;");
        String[] dues = {"0 0 0 0", "7 7 7 -7", "7 7 -7 7", "7 -7 7 7", "-7 7 7 7", "0 0 0 0"};
        for (int i = 0; i < dues.length; i++) {
            int w = i + 1;
            rowDue("sums from " + w, dues[i], d -> x.sum(0, d, 0, w, false));
            rowDue("sums from " + w, "0 0 0 0", d -> x.sum(0, d, 0, w, true));
        }
        SpreadRows y = told("reg m 7 64 127; both n m m 0; bits o 1 1; bits p 13 1; samples 512; jam 126 126 7 1;");
        due("the last of 127", y.sum(0, 0, 0, 0, false), -7);
        due("the last of 127", y.sum(0, 126, 0, 0, false), -7);
        due("the first of one", y.sum(2, 0, 0, 126, false), -7);
        rowDue("of 13", "7 7 7 7 7 7 7 7 7 7 7 7 -7", d -> y.sum(3, d, 0, 114, false));
    }

    private static void turnedBack() {
        sentence("19", "each turned back by TURN of t at it");
        SpreadRows x = told("bits a 1 0; samples 64; jam 0 63 7 8;");
        due("at 0", sums(x, 0, 0), "7 0 7 0 7 0 7 0");
        due("at 8", sums(x, 0, 8), "7 0 0 -7 -7 0 0 7");
        due("at 16", sums(x, 0, 16), "7 0 -7 0 7 0 -7 0");
        due("at 24", sums(x, 0, 24), "7 0 0 7 -7 0 0 -7");
        due("at 32", sums(x, 0, 32), "7 0 7 0 7 0 7 0");
        due("at 40", sums(x, 0, 40), "7 0 0 -7 -7 0 0 7");
        due("beside", sums(x, 0, 39), "0 0 0 0 0 0 0 0");
        // what lies at im: of TONE 1 it is turned back to re
        SpreadRows y = told("bits a 1 0; samples 64; send s a 7 0 1 0;");
        due("at 8", sums(y, 0, 8), "0 7 7 0 0 -7 -7 0");
        due("at 15", sums(y, 0, 15), "0 7 7 0 0 -7 -7 0");
        due("at 16", sums(y, 0, 16), "-7 0 7 0 -7 0 7 0");
        due("at 24", sums(y, 0, 24), "0 -7 7 0 0 7 -7 0");
        for (int t = 0; t < 4; t++) {
            SpreadRows z = told("bits a 13 0; samples 64; send s a 7 0 " + t + " 0;");
            due("its own TONE", z.sum(0, 0, t, 3, false), 91);
            due("its own TONE", z.sum(0, 0, t, 3, true), 0);
        }
    }

    private static void beyondTheLastOne() {
        sentence("19 20", "samples beyond the last one are 0.");
        SpreadRows x = told(ONES);
        rowDue("sums", "4 4 4 3 2 1 " + NO_SUM, i -> x.sum(0, 0, 0, 10 + i, false));
        rowDue("sums of 13", "13 13 12 11", i -> x.sum(1, 0, 0, 2 + i, false));
        rowDue("metrics", "16 16 16 9 4 1 -1", i -> (int) x.metric(0, 0, 10 + i, 1));
        SpreadRows y = told("bits a 13 0; samples 512; jam 0 511 1 1;");
        rowDue("sums of 512", "13 13 12 11", i -> y.sum(0, 0, 0, 498 + i, false));
        due("the last of 512", y.sum(0, 0, 0, 511, false), 1);
    }

    /** The last PERIODS, that have some samples, one or none of their own, count in all that looks at each CELL. */
    private static void acrossTheLastOne() {
        sentence("20 21 22 23 24 25", "from w + j * LENGTH on.");
        // of the second PERIOD from 12 on just the first sample is there
        SpreadRows x = told("bits a 4 1; samples 17; jam 16 16 5 1;");
        for (int m : new int[] {2, 3, 9}) {
            due("of 25, over " + m, x.alarms(0, 12, m, 25), 16);
            due("of 26, over " + m, x.alarms(0, 12, m, 26), 0);
            due("the last CELL, over " + m, x.metric(0, 15, 12, m), 25);
            due("looked at, over " + m, x.plan(0, 12, m, 0, 1, 25), 1);
        }
        due("ahead of it", x.alarms(0, 12, 1, 1), 0);
        for (int m : new int[] {1, 2, 9}) due("begun at it, over " + m, x.alarms(0, 16, m, 25), 16);
        // of the second PERIOD from 11 on just the first two are there
        SpreadRows y = told("bits a 4 1; samples 17; jam 15 16 5 1;");
        for (int m : new int[] {2, 3, 9}) {
            rowDue("METRICS over " + m, "0 50 100 50 0 50 100 50 100 50 0 50 100 50 0 50", cell -> (int) y.metric(0, cell, 11, m));
            due("BEST over " + m, y.best(0, 11, m), 2);
            rowDue("SECOND over " + m, "6 8 8", gap -> y.second(0, 11, m, gap));
            rowDue("PEAKS over " + m, "2 3 0 1", i -> y.peak(0, 0, 11, m, i));
            rowDue("ALARMS over " + m, "16 12 4 0", i -> y.alarms(0, 11, m, new int[] {0, 50, 51, 101}[i]));
            due("PLAN over " + m, y.plan(0, 11, m, 0, 4, 100), 3);
        }
        due("BEST over one", y.best(0, 11, 1), 0);
        due("ALARMS over one", y.alarms(0, 11, 1, 1), 0);
    }

    private static void noSuchSum() {
        sentence("19", "SUM: re, or im; -1000000000: no such ones (d 0 .. LENGTH - 1, t 0 .. 3, w a sample).");
        SpreadRows x = told(ONES);
        refused("sum(.., 0, 0, 0)", NO_SUM, c -> x.sum(c, 0, 0, 0, false), -1, 3, 8, MIN, MAX);
        refused("sum(0, .., 0, 0)", NO_SUM, d -> x.sum(0, d, 0, 0, false), -1, 4, 5, MIN, MAX);
        refused("sum(2, .., 0, 0)", NO_SUM, d -> x.sum(2, d, 0, 0, true), -1, 1, 4);
        refused("sum(0, 0, .., 0)", NO_SUM, t -> x.sum(0, 0, t, 0, false), -1, 4, 5, MIN, MAX);
        refused("sum(0, 0, 0, ..)", NO_SUM, w -> x.sum(0, 0, 0, w, true), -1, 16, 17, 255, 512, MIN, MAX);
        due("the last ones", x.sum(0, 3, 3, 15, true), 1);
        due("the first ones", x.sum(0, 0, 0, 0, false), 4);
        due("a new object", new SpreadRows().sum(0, 0, 0, 0, false), NO_SUM);
    }

    private static void periodsOfMetric() {
        sentence("20", "METRIC over m PERIODS (1 .. 9): the sum, over j from 0 to m - 1");
        SpreadRows x = told(ONES);
        rowDue("from 0 on", "-1 16 32 48 64 64 64 64 64 64 -1", m -> (int) x.metric(0, 0, 0, m));
        rowDue("from 2 on", "-1 16 32 48 52 52 52 52 52 52 -1", m -> (int) x.metric(0, 0, 2, m));
        SpreadRows y = told("bits a 1 0; samples 16; jam 0 15 1 1;");
        rowDue("of one CHIP", "-1 1 2 3 4 5 6 7 8 9 -1", m -> (int) y.metric(0, 0, 0, m));
        rowDue("of one CHIP", "-1 1 2 3 4 4 4 4 4 4 -1", m -> (int) y.metric(0, 0, 12, m));
    }

    private static void bothNumbers() {
        sentence("20", "of the squares of both numbers of SUM from w + j * LENGTH on.");
        // 13 ones: of TONE 1 eight at re and five at im, of TONE 2 eight less five
        SpreadRows x = told("bits a 4 0; bits b 13 0; samples 26; jam 0 25 1 1;");
        rowDue("of 13", "169 89 9 89", t -> (int) x.metric(1, t, 0, 1));
        // 3 at im times -1, 8 at re times -1, 2 at im: 64 and 1 more of TONE 1; of TONE 2 3 less 8 more 2
        rowDue("of 26", "338 154 18 154", t -> (int) x.metric(1, t, 0, 2));
        // more than an int holds, at re and at im
        SpreadRows loud = told("bits a 8 0; samples 512; send s a 99 0 0 0; send t a 99 0 1 0;");
        for (int i = 0; i < 30; i++) loud.add(0, 9);
        due("at re", loud.metric(0, 0, 40, 1), 8L * 99 * 271 * (8L * 99 * 271) + 8L * 99 * (8L * 99));
        for (int i = 0; i < 50; i++) loud.add(1, 9);
        due("at im", loud.metric(0, 0, 40, 1), 8L * 99 * 271 * (8L * 99 * 271) + 8L * 99 * 451 * (8L * 99 * 451));
    }

    private static void noSuchMetric() {
        sentence("20", "METRIC of a CELL; -1: no such ones.");
        SpreadRows x = told(ONES);
        refused("metric(.., 0, 0, 1)", -1, c -> x.metric(c, 0, 0, 1), -1, 3, 8, MIN, MAX);
        refused("metric(0, .., 0, 1)", -1, cell -> x.metric(0, cell, 0, 1), -1, 16, 17, MIN, MAX);
        refused("metric(2, .., 0, 1)", -1, cell -> x.metric(2, cell, 0, 1), -1, 4, 5);
        refused("metric(0, 0, .., 1)", -1, w -> x.metric(0, 0, w, 1), -1, 16, 17, 512, MIN, MAX);
        refused("metric(0, 0, 0, ..)", -1, m -> x.metric(0, 0, 0, m), 0, -1, 10, 11, MIN, MAX);
        due("the last CELL", x.metric(0, 15, 15, 9), 1);
        due("the last CELL of one CHIP", x.metric(2, 3, 15, 9), 1);
    }

    // ---- BEST, SECOND, PEAKS

    private static void theLeastCell() {
        sentence("21", "BEST: the CELL of the greatest METRIC; of alike ones the least.");
        due("all are 0", told("reg m 7 3 1; samples 16;").best(0, 0, 9), 0);
        due("all are alike", told(ONES).best(0, 0, 1), 0);
        // four TONES are alike within one eight, then it is told
        SpreadRows x = told("bits a 4 1; samples 32; send s a 3 2 0 0;");
        due("one of four TONES", x.best(0, 4, 1), 8);
        due("two PERIODS", x.best(0, 4, 2), 8);
        SpreadRows y = told("bits a 4 1; samples 32; send s a 3 2 3 0;");
        due("one of four TONES", y.best(0, 4, 1), 8);
        due("two PERIODS", y.best(0, 4, 2), 8);
        // two PERIODS of 13, that lie in one eight and in two
        for (int t = 0; t < 4; t++) {
            SpreadRows z = told("bits a 13 7989; samples 64; send s a 3 5 " + t + " 0;");
            due("TONE " + t, z.best(0, 13, 2), 4 * 5 + t);
        }
    }

    private static void theLastCell() {
        sentence("20 21", "CELL: 4 * d + t.");
        SpreadRows x = told("reg m 7 3 1; samples 512; send s m 7 126 3 0;");
        due("the last CELL", x.best(0, 127, 1), 507);
        due("its METRIC", x.metric(0, 507, 127, 1), 889 * 889);
        SpreadRows y = told("reg m 7 3 1; samples 512; send s m 7 0 1 0;");
        due("the second CELL", y.best(0, 127, 1), 1);
        SpreadRows z = told("bits a 13 7989; samples 64; send s a 3 12 2 0;");
        due("delay 12, TONE 2", z.best(0, 13, 3), 50);
    }

    private static void noSuchBest() {
        sentence("21", "BEST; NONE: no such ones.");
        SpreadRows x = told(ONES);
        refused("best(.., 0, 1)", -1, c -> x.best(c, 0, 1), -1, 3, 8, MIN, MAX);
        refused("best(0, .., 1)", -1, w -> x.best(0, w, 1), -1, 16, 17, 512, MIN, MAX);
        refused("best(0, 0, ..)", -1, m -> x.best(0, 0, m), 0, -1, 10, 11, MIN, MAX);
        due("the last ones", x.best(2, 15, 9), 0);
    }

    private static void gaps() {
        sentence("22", "whose delay is more than gap off its");
        // all delays of TONE 0 have 256, of TONES 1 and 3 128: the furthest delay is 8 off
        SpreadRows x = told("walsh a 4 0; samples 16; jam 0 15 1 1;");
        due("best", x.best(0, 0, 1), 0);
        rowDue("second by gap", "4 8 12 16 20 24 28 32 1 1 1", gap -> x.second(0, 0, 1, gap));
        rowDue("second by gap", "1 1 1 -1 -1", gap -> x.second(0, 0, 1, 58 + gap));
        due("gap -1", x.second(0, 0, 1, -1), -1);
        // of 127 delays: up to 63 off
        SpreadRows y = told("reg m 7 64 127; samples 127; jam 0 126 1 1;");
        rowDue("second by gap", "228 232 236 240 244 -1", gap -> y.second(0, 0, 1, 56 + gap));
    }

    private static void eitherWayRound() {
        sentence("22", "(either way round)");
        String[] others = {"28", "3", "27", "16", "15"};
        int[] off = {3, 3, 4, 15, 15};
        for (int i = 0; i < others.length; i++) {
            SpreadRows x = told("reg m 5 5 3; samples 200; send s m 9 0 0 0; send t m 8 " + others[i] + " 0 0;");
            int other = 4 * Integer.parseInt(others[i]);
            due("best", x.best(0, 31, 3), 0);
            due("second, " + others[i] + " off", x.second(0, 31, 3, off[i] - 1), other);
            due("second, not beyond the gap", x.second(0, 31, 3, off[i]) == other, false);
        }
        // from the end on over it
        SpreadRows y = told("reg m 5 5 3; samples 200; send s m 9 30 0 0; send t m 8 2 0 0;");
        due("best", y.best(0, 31, 3), 120);
        due("second, 3 off", y.second(0, 31, 3, 2), 8);
        due("second, not beyond the gap", y.second(0, 31, 3, 3) == 8, false);
    }

    private static void anotherTone() {
        sentence("22", "SECOND for a gap (0 .. 60): likewise, of those CELLS of another TONE than BEST's");
        // within one eight the other TONES of BEST's delay are alike, the least goes first
        SpreadRows x = told(LATE);
        rowDue("second", "5 5 5 5", gap -> x.second(0, 0, 1, 20 * gap));
        SpreadRows one = told("bits a 1 0; samples 16;");
        due("one CHIP, of nothing", one.second(0, 0, 1, 0), 1);
        due("one CHIP, of nothing", one.second(0, 0, 1, 60), 1);
        // BEST's own CELL never, though a gap of 0 is asked
        SpreadRows y = told("reg m 5 5 3; samples 200; send s m 9 7 2 0;");
        due("best", y.best(0, 31, 3), 30);
        due("not BEST", y.second(0, 31, 3, 0) == 30, false);
        // ahead of BEST's too
        SpreadRows z = told("reg m 7 3 1; samples 512; send s m 7 0 1 0; send t m 4 0 0 0;");
        due("best", z.best(0, 0, 3), 1);
        due("the TONE below", z.second(0, 0, 3, 60), 0);
    }

    private static void loudOnes() {
        sentence("21 22 23 24 25 36", "the CELL of the greatest METRIC");
        // METRICS beyond what an int holds, a little more each time; the third and last SENDER beside the first one
        SpreadRows x = told("reg m 5 5 1; samples 512; send s m 99 10 0 0; send t m 90 20 0 0; send u m 80 11 0 0;");
        for (int i = 0; i < 30; i++) {
            for (int s = 0; s < 3; s++) x.add(s, 9);
            due("best", x.best(0, 31, 9), 40);
            due("second", x.second(0, 31, 9, 1), 80);
            due("first peak", x.peak(0, 0, 31, 9, 0), 10);
            due("third peak", x.peak(0, 0, 31, 9, 2), 11);
            due("loop", x.loop(0, 11, 0, 31, 1), 10);
            due("loop", x.loop(0, 19, 0, 31, 1), 20);
            due("alarms", x.alarms(0, 31, 9, x.metric(0, 44, 31, 9)), 3);
            due("plan", x.plan(0, 31, 9, 41, 3, x.metric(0, 80, 31, 9)), 14);
        }
    }

    private static void noSuchSecond() {
        sentence("22", "SECOND: the CELL; -2: there is none; NONE: no such ones.");
        SpreadRows x = told(ONES);
        refused("second(.., 0, 1, 0)", -1, c -> x.second(c, 0, 1, 0), -1, 3, 8, MIN, MAX);
        refused("second(0, .., 1, 0)", -1, w -> x.second(0, w, 1, 0), -1, 16, 17, 512, MIN, MAX);
        refused("second(0, 0, .., 0)", -1, m -> x.second(0, 0, m, 0), 0, -1, 10, 11, MIN, MAX);
        refused("second(0, 0, 1, ..)", -1, gap -> x.second(0, 0, 1, gap), -1, 61, 62, MIN, MAX);
        // there is always one, of another TONE
        due("the widest gap of one CHIP", x.second(2, 15, 9, 60), 1);
    }

    private static void theLeastDelay() {
        sentence("23", "PEAKS of a TONE: its delays by METRIC, the greatest first, of alike ones the least delay.");
        SpreadRows none = told("bits a 4 1; samples 16;");
        rowDue("all alike", "-1 0 1 2 3 -1", i -> none.peak(0, 0, 0, 1, i - 1));
        // in samples 3 to 6: +-++ of delay 1, less the others
        SpreadRows x = told(LATE);
        for (int t = 0; t < 4; t++) {
            int tone = t;
            rowDue("peaks of TONE " + t, "-1 1 0 2 3 -1", i -> x.peak(0, tone, 0, 1, i - 1));
        }
        SpreadRows y = told("reg m 5 5 3; samples 200; send s m 9 7 1 0; send t m 6 30 1 0; send u m 4 0 1 0;");
        rowDue("three of one TONE", "7 30 0", i -> y.peak(0, 1, 31, 4, i));
        int[] places = new int[31];
        for (int i = 0; i < 31; i++) places[y.peak(0, 2, 0, 1, i)]++;
        for (int d = 0; d < 31; d++) due("delay " + d + " stands once", places[d], 1);
    }

    private static void noSuchPeak() {
        sentence("23", "The i-th of PEAKS; NONE: no such ones.");
        SpreadRows x = told(ONES);
        refused("peak(.., 0, 0, 1, 0)", -1, c -> x.peak(c, 0, 0, 1, 0), -1, 3, 8, MIN, MAX);
        refused("peak(0, .., 0, 1, 0)", -1, t -> x.peak(0, t, 0, 1, 0), -1, 4, 5, MIN, MAX);
        refused("peak(0, 0, .., 1, 0)", -1, w -> x.peak(0, 0, w, 1, 0), -1, 16, 17, 512, MIN, MAX);
        refused("peak(0, 0, 0, .., 0)", -1, m -> x.peak(0, 0, 0, m, 0), 0, -1, 10, 11, MIN, MAX);
        refused("peak(0, 0, 0, 1, ..)", -1, i -> x.peak(0, 0, 0, 1, i), -1, 4, 5, MIN, MAX);
        refused("peak(2, 0, 0, 1, ..)", -1, i -> x.peak(2, 0, 0, 1, i), -1, 1);
        due("the last ones", x.peak(0, 3, 15, 9, 3), 3);
    }

    // ---- ALARMS and PLAN

    private static void thresholds() {
        sentence("24", "ALARMS: how many CELLS have METRIC of a THRESHOLD or more.");
        // four CELLS of 81 each
        SpreadRows x = told(LATE);
        due("81", x.metric(0, 4, 0, 1), 81);
        due("alarms of 80", x.alarms(0, 0, 1, 80), 4);
        due("alarms of 81", x.alarms(0, 0, 1, 81), 4);
        due("alarms of 82", x.alarms(0, 0, 1, 82), 0);
        due("alarms of 0", x.alarms(0, 0, 1, 0), 16);
        due("alarms of -1", x.alarms(0, 0, 1, -1), 16);
        due("alarms of the least", x.alarms(0, 0, 1, Long.MIN_VALUE), 16);
        due("alarms of the most", x.alarms(0, 0, 1, Long.MAX_VALUE), 0);
        // thresholds beyond 32 bits are no small ones
        due("alarms of 2 to the 32", x.alarms(0, 0, 1, 1L << 32), 0);
        due("alarms of less than that", x.alarms(0, 0, 1, (1L << 32) - (1L << 33)), 16);
        due("127 delays", told("reg m 7 3 1; samples 16;").alarms(0, 0, 1, 0), 508);
        due("one CHIP", told("bits a 1 0; samples 16;").alarms(0, 0, 1, 0), 4);
    }

    private static void noSuchAlarms() {
        sentence("24", "ALARMS; NONE: no such ones.");
        SpreadRows x = told(ONES);
        refused("alarms(.., 0, 1, 0)", -1, c -> x.alarms(c, 0, 1, 0), -1, 3, 8, MIN, MAX);
        refused("alarms(0, .., 1, 0)", -1, w -> x.alarms(0, w, 1, 0), -1, 16, 17, 512, MIN, MAX);
        refused("alarms(0, 0, .., 0)", -1, m -> x.alarms(0, 0, m, 0), 0, -1, 10, 11, MIN, MAX);
        due("the last ones", x.alarms(0, 15, 9, 0), 16);
    }

    private static void lookedAt() {
        sentence("25", "how many are looked at till one has METRIC of a THRESHOLD or more.");
        // CELLS 4 to 7 have 81
        SpreadRows x = told(LATE);
        rowDue("from each on", "5 4 3 2 1 1 1 1 13 12 11 10 9 8 7 6", cell -> x.plan(0, 0, 1, cell, 1, 81));
        due("a little more", x.plan(0, 0, 1, 0, 1, 82), -2);
        due("the first has it", x.plan(0, 0, 1, 15, 1, 0), 1);
        due("the first has it", x.plan(0, 0, 1, 15, 16, Long.MIN_VALUE), 1);
    }

    private static void stepsRound() {
        sentence("25", "each next one so many (step 1 .. 4 * LENGTH) further, the rest by 4 * LENGTH, as many as CELLS there are");
        SpreadRows x = told(LATE);
        rowDue("by step", "-1 5 3 3 2 2 2 2 -2 5 3 3 4 4 6 10 -2 -1", step -> x.plan(0, 0, 1, 0, step, 81));
        // all 508 CELLS, the last of them has it
        SpreadRows y = told("reg m 7 3 1; samples 512; send s m 7 126 3 0;");
        long threshold = 889 * 889;
        due("on and on", y.plan(0, 127, 1, 0, 1, threshold), 508);
        due("back", y.plan(0, 127, 1, 0, 507, threshold), 2);
        due("by 505, round and round", y.plan(0, 127, 1, 506, 505, threshold), 1 + steps(506, 505, 508, cell -> cell == 507));
        due("always the same one", y.plan(0, 127, 1, 506, 508, threshold), -2);
        due("always the same one, it", y.plan(0, 127, 1, 507, 508, threshold), 1);
        SpreadRows one = told("bits a 1 0; samples 16;");
        due("of 4 CELLS by 4", one.plan(0, 0, 1, 3, 4, 1), -2);
        due("of 4 CELLS by 5", one.plan(0, 0, 1, 3, 5, 1), -1);
    }

    /** How many steps it takes to a CELL. */
    private static int steps(int cell, int step, int cells, IntPredicate found) {
        int n = 0;
        for (int at = cell; !found.test(at); at = (at + step) % cells) n++;
        return n;
    }

    private static void noneHasIt() {
        sentence("25", "PLAN: how many CELLS are looked at; -2: none has it; NONE: no such ones.");
        SpreadRows x = told(LATE);
        due("none at all", x.plan(0, 0, 1, 0, 1, Long.MAX_VALUE), -2);
        due("none of those", x.plan(0, 0, 1, 0, 8, 81), -2);
        // NONE goes ahead of -2
        due("no such CODE", x.plan(1, 0, 1, 0, 1, Long.MAX_VALUE), -1);
        due("no such CELL", x.plan(0, 0, 1, 16, 1, Long.MAX_VALUE), -1);
        due("no such step", x.plan(0, 0, 1, 0, 17, Long.MAX_VALUE), -1);
    }

    private static void noSuchPlan() {
        sentence("25", "-2: none has it; NONE: no such ones.");
        SpreadRows x = told(ONES);
        refused("plan(.., 0, 1, 0, 1, 0)", -1, c -> x.plan(c, 0, 1, 0, 1, 0), -1, 3, 8, MIN, MAX);
        refused("plan(0, .., 1, 0, 1, 0)", -1, w -> x.plan(0, w, 1, 0, 1, 0), -1, 16, 17, 512, MIN, MAX);
        refused("plan(0, 0, .., 0, 1, 0)", -1, m -> x.plan(0, 0, m, 0, 1, 0), 0, -1, 10, 11, MIN, MAX);
        refused("plan(0, 0, 1, .., 1, 0)", -1, cell -> x.plan(0, 0, 1, cell, 1, 0), -1, 16, 17, MIN, MAX);
        refused("plan(0, 0, 1, 0, .., 0)", -1, step -> x.plan(0, 0, 1, 0, step, 0), 0, -1, 17, 18, MIN, MAX);
        due("the last ones", x.plan(0, 15, 9, 15, 16, 0), 1);
    }

    // ---- MEAN and OVER

    private static void meanDue(SpreadRows x, int q, int a, int f, int b, int k) {
        BigInteger above = BigInteger.valueOf(2 * b - a).multiply(BigInteger.valueOf(q - 1)).multiply(BigInteger.valueOf(b + k * f))
            .add(BigInteger.valueOf(2 * b * b));
        BigInteger line = BigInteger.valueOf(2 * a * b);
        BigInteger common = above.gcd(line);
        String call = "mean(" + q + ", " + a + ", " + f + ", " + b + ", " + k + ")";
        due(call + ", above", x.mean(q, a, f, b, k, false), above.divide(common).longValueExact());
        due(call + ", below", x.mean(q, a, f, b, k, true), line.divide(common).longValueExact());
    }

    private static void meanBounds() {
        sentence("26", "((2 b - a) (q - 1) (b + k f) + 2 b b) by (2 a b)");
        SpreadRows x = told("");
        int[] qs = {2, 3, 999, 1000}, bs = {1, 2, 99, 100}, ks = {0, 1, 1000};
        for (int q : qs) {
            for (int b : bs) {
                for (int k : ks) {
                    meanDue(x, q, 1, 0, b, k);
                    meanDue(x, q, b, b, b, k);
                    meanDue(x, q, 1, b, b, k);
                }
            }
        }
        // by the words: two cells, certain looks: (1 * 1 * 1 + 2) by 2
        due("above", x.mean(2, 1, 0, 1, 0, false), 3);
        due("below", x.mean(2, 1, 0, 1, 0, true), 2);
        due("more than an int holds", x.mean(1000, 1, 100, 100, 1000, false), 199000001);
        due("more than an int holds ahead of it", x.mean(1000, 1, 100, 100, 999, false), 99400600);
        due("of a long", x.mean(998, 1, 97, 97, 1000, false), (193L * 997 * (97 + 97000) + 2 * 97 * 97) / 97);
    }

    private static void meanLessened() {
        sentence("26", "as a fraction that cannot be lessened");
        SpreadRows x = told("");
        for (int i = 0; i < 60; i++) meanDue(x, 2 + 37 * i % 999, 1 + i % 7, i % 5, 7 + i, 13 * i);
        // (4 - 2) * 4 * 2 + 8 by 8 is 3 by 1
        due("a whole number, above", x.mean(5, 2, 0, 2, 0, false), 3);
        due("a whole number, below", x.mean(5, 2, 0, 2, 0, true), 1);
    }

    private static void noSuchCells() {
        sentence("26", "MEAN of a search through q cells (2 .. 1000)");
        SpreadRows x = told("");
        refused("mean(.., 1, 0, 1, 0), above", -1, q -> x.mean(q, 1, 0, 1, 0, false), 1, 0, -1, 1001, MIN, MAX);
        refused("mean(.., 1, 0, 1, 0), below", -1, q -> x.mean(q, 1, 0, 1, 0, true), 1, 0, -1, 1001, MIN, MAX);
        due("the least", x.mean(2, 1, 0, 1, 0, true), 2);
        due("the most", x.mean(1000, 1, 0, 1, 0, false), 1001);
    }

    private static void noSuchChances() {
        sentence("26", "(b 1 .. 100, a 1 .. b, f 0 .. b)");
        SpreadRows x = told("");
        for (boolean below : new boolean[] {false, true}) {
            refused("mean(2, .., 0, 5, 0)", -1, a -> x.mean(2, a, 0, 5, 0, below), 0, -1, 6, 7, MIN, MAX);
            refused("mean(2, 1, .., 5, 0)", -1, f -> x.mean(2, 1, f, 5, 0, below), -1, 6, 7, MIN, MAX);
            refused("mean(2, 1, 0, .., 0)", -1, b -> x.mean(2, 1, 0, b, 0, below), 0, -1, 101, 102, MIN, MAX);
            refused("mean(2, .., 0, .., 0)", -1, b -> x.mean(2, b, 0, b, 0, below), 0, -1, 101, MIN, MAX);
        }
        due("the most, above", x.mean(2, 100, 100, 100, 0, false), 3);
        due("the most, below", x.mean(2, 100, 100, 100, 0, true), 2);
    }

    private static void noSuchCosts() {
        sentence("26", "which costs k more (0 .. 1000), then it goes on");
        SpreadRows x = told("");
        refused("mean(2, 1, 0, 1, ..), above", -1, k -> x.mean(2, 1, 0, 1, k, false), -1, 1001, MIN, MAX);
        refused("mean(2, 1, 0, 1, ..), below", -1, k -> x.mean(2, 1, 0, 1, k, true), -1, 1001, MIN, MAX);
        due("none", x.mean(2, 1, 1, 1, 0, false), 3);
        due("the most", x.mean(2, 1, 1, 1, 1000, false), 1003);
        due("no wrong one is told right", x.mean(2, 1, 0, 1, 1000, false), 3);
    }

    /** OVER by going through all b to the n ways. */
    private static long ways(int q, int a, int b, int d, int n) {
        long all = 1, found = 0;
        for (int i = 0; i < n; i++) all *= b;
        for (long way = 0; way < all; way++) {
            long left = way;
            int cell = d;
            boolean told = false;
            for (int look = 0; look < n; look++) {
                told |= cell == 0 && left % b < a;
                left /= b;
                cell = cell == 0 ? q - 1 : cell - 1;
            }
            if (told) found++;
        }
        return found;
    }

    private static void overWays() {
        sentence("27", "begun d (0 .. q - 1) cells ahead of the right one, it is told right within n looks (f not looked at).");
        SpreadRows x = told("");
        for (int q = 2; q <= 4; q++) {
            for (int b = 1; b <= 3; b++) {
                for (int a = 1; a <= b; a++) {
                    for (int n = 0; n <= 5; n++) {
                        int most = q, times = a, of = b, looks = n;
                        rowDue("over(" + q + ", " + a + ", " + b + ", .., " + n + ")", row(q, d -> (int) ways(most, times, of, d, looks)),
                            d -> (int) x.over(most, times, of, d, looks));
                    }
                }
            }
        }
        // looks up to just that at the right one, and the one behind it
        rowDue("one look at it", "0 0 0 4 8", n -> (int) x.over(1000, 1, 2, 2, n));
        SpreadRows y = told("");
        rowDue("three looks at it", "0 0 2 4 12 24 56", n -> (int) y.over(2, 1, 2, 1, n));
    }

    private static void overLongWays() {
        sentence("27", "OVER: of b to the n ways (b 1 .. 10, n 0 .. 18)");
        SpreadRows x = told("");
        due("no looks", x.over(2, 1, 1, 0, 0), 0);
        due("certain", x.over(2, 10, 10, 0, 18), 1000000000000000000L);
        due("not yet", x.over(1000, 10, 10, 18, 18), 0);
        due("just yet", x.over(1000, 10, 10, 17, 18), 1000000000000000000L);
        due("one of ten, nine looks", x.over(2, 1, 10, 0, 18), 1000000000000000000L - 387420489L * 1000000000L);
        due("one way alone", x.over(2, 1, 1, 1, 18), 1);
        due("the last cell", x.over(1000, 1, 1, 999, 18), 0);
    }

    private static void noSuchOver() {
        sentence("27", "OVER; -1: no such ones.");
        SpreadRows x = told("");
        refused("over(.., 1, 1, 0, 1)", -1, q -> x.over(q, 1, 1, 0, 1), 1, 0, -1, 1001, MIN, MAX);
        refused("over(2, .., 5, 0, 1)", -1, a -> x.over(2, a, 5, 0, 1), 0, -1, 6, 7, MIN, MAX);
        refused("over(2, 1, .., 0, 1)", -1, b -> x.over(2, 1, b, 0, 1), 0, -1, 11, 12, MIN, MAX);
        refused("over(2, .., .., 0, 1)", -1, b -> x.over(2, b, b, 0, 1), 0, -1, 11, MIN, MAX);
        refused("over(3, 1, 1, .., 1)", -1, d -> x.over(3, 1, 1, d, 1), -1, 3, 4, MIN, MAX);
        refused("over(2, 1, 1, 0, ..)", -1, n -> x.over(2, 1, 1, 0, n), -1, 19, 20, MIN, MAX);
        due("the most", x.over(1000, 10, 10, 0, 18), 1000000000000000000L);
    }

    private static void atMost512Calls() {
        sentence("13 14 19 20 28 30 35", "An object is used for at most 512 calls after it has been made");
        // as loud as it can get till then: all CHIPS are -1, with six ECHOES
        String text = "reg m 7 64 127; samples 512; send s m 99 0 0 0; echo s 1 99; echo s 2 99; echo s 3 99; echo s 4 99; echo s 5 99; echo s 6 99;";
        int writing = (text.length() + 19) / 20 + 2, asking = 9;
        SpreadRows x = new SpreadRows();
        due("read", read(x, text), 0);
        int adds = 512 - writing - asking;
        for (int i = 0; i < adds; i++) x.add(0, 9);
        long each = 99L * 7 * (1 + 9 * adds), all = 127 * each;
        due("sample", x.sample(511, false), -each);
        due("power", x.power(127, 511), 385 * each * each);
        due("sum", x.sum(0, 0, 0, 127, false), all);
        due("metric", x.metric(0, 0, 127, 3), 3 * all * all);
        due("best", x.best(0, 127, 3), 0);
        due("bit", x.bit(0, 2), 0);
        due("joined", x.joined(0, 2), 0);
        due("rest(0)", x.rest(0), x.power(0, 511));
    }
}
