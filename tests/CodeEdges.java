/** Of the document's II what CODES are by themselves, and promises 6 to 12. */
final class CodeEdges extends Kit {
    /** -+++ --++ -++-+-- + - --+ */
    private static final String ROWS = "bits a 4 1; bits b 4 3; reg m 3 3 1; bits o 1 0; bits n 1 1; bits k 3 3;";

    private CodeEdges() {
    }

    static void all() {
        onesAtMost();
        minuses();
        ownShifts();
        roundByRound();
        noSuchWhat();
        chips();
        noSuchChip();
        alikeRoundTheEnd();
        alikeShifts();
        noSuchAlike();
        worstWithoutItsSign();
        worstWithItself();
        worstWithoutAny();
        noSuchWorst();
        timesAtEachShift();
        noSuchTimes();
        depthOfNothing();
        depthFromThatOn();
        depthRoundByRound();
        noSuchDepth();
        familyOfOneLength();
        familyOrLess();
        familyWithItself();
        familyLeastBits();
        familyEmpty();
        noSuchFamily();
    }

    private static void onesAtMost() {
        sentence("6 7", "LENGTH: how many.");
        SpreadRows x = told("bits a 1 0; bits b 13 8191; walsh c 1 0; walsh d 6 0; reg e 2 1 1; reg f 7 1 1;");
        rowDue("LENGTHS", "1 13 2 64 3 127 -1", c -> x.code(c, 0));
        for (int c = 0; c < 6; c++) {
            due("the last CHIP of " + c, Math.abs(x.chip(c, x.code(c, 0) - 1)), 1);
            due("no CHIP beyond of " + c, x.chip(c, x.code(c, 0)), 0);
        }
    }

    private static void minuses() {
        sentence("6", "1 how many CHIPS are -1");
        SpreadRows x = told("bits a 13 0; bits b 13 8191; bits c 13 4096; reg d 7 64 127; reg e 7 65 1; bits f 1 1;");
        rowDue("how many", "0 13 1 127 64 1 -1", c -> x.code(c, 1));
    }

    private static void ownShifts() {
        sentence("6", "2 the least shift from 1 on by which it is itself (LENGTH at most)");
        SpreadRows x = told("bits a 1 0; bits b 1 1; bits c 6 0; bits d 6 21; bits e 6 9; bits f 6 7; bits g 12 585; bits h 12 2925;");
        rowDue("own shifts", "1 1 1 2 3 6 3 3", c -> x.code(c, 2));
        SpreadRows y = told("walsh a 6 0; walsh b 6 1; walsh c 6 32; walsh d 6 8; reg e 7 65 1; reg f 7 1 1; reg g 2 1 1; reg h 3 1 1;");
        // the last ones go out beyond what fits: 7 by 7 is no round of 127, nor 3 of 7
        rowDue("own shifts", "1 2 64 16 127 127 3 7", c -> y.code(c, 2));
    }

    private static void roundByRound() {
        sentence("6", "3 how many times a CHIP differs from the next one (round by round)");
        SpreadRows x = told("bits a 1 1; bits b 2 1; bits c 2 3; bits d 4 8; bits e 4 1; bits f 5 21; bits g 13 1365; walsh h 6 1;");
        // of 5 CHIPS -+-+- the last one and the first one are alike
        rowDue("changes", "0 2 0 2 2 4 12 64", c -> x.code(c, 3));
    }

    private static void noSuchWhat() {
        sentence("6", "NONE for others.");
        SpreadRows x = told(ROWS);
        for (int what = 0; what < 4; what++) {
            int one = what;
            refused("code(.., " + what + ")", -1, c -> x.code(c, one), 6, 7, 8, -1, MIN, MAX);
            due("the last CODE", x.code(5, what) >= 0, true);
        }
        refused("code(0, ..)", -1, w -> x.code(0, w), 4, 5, -1, MIN, MAX);
        refused("code of a new object", -1, c -> new SpreadRows().code(c, 0), 0, -1);
    }

    private static void chips() {
        sentence("7", "CHIP i (0 .. LENGTH - 1)");
        SpreadRows x = told(ROWS);
        rowDue("CHIPS of 0", "0 -1 1 1 1 0", i -> x.chip(0, i - 1));
        rowDue("CHIPS of 2", "0 -1 1 1 -1 1 -1 -1 0", i -> x.chip(2, i - 1));
        rowDue("CHIPS of 3", "0 1 0", i -> x.chip(3, i - 1));
        rowDue("CHIPS of 5", "0 -1 -1 1 0", i -> x.chip(5, i - 1));
    }

    private static void noSuchChip() {
        sentence("7", "0: no such ones.");
        SpreadRows x = told(ROWS);
        refused("chip(0, ..)", 0, i -> x.chip(0, i), -1, 4, 5, 127, MIN, MAX);
        refused("chip(.., 0)", 0, c -> x.chip(c, 0), -1, 6, 8, MIN, MAX);
        refused("chip of a new object", 0, c -> new SpreadRows().chip(c, 0), 0);
    }

    private static void alikeRoundTheEnd() {
        sentence("8", "the sum of CHIP i of the one times CHIP i + s of the other one.");
        // -++ and ++-
        SpreadRows x = told("bits a 3 1; bits b 3 4; bits c 13 1; bits d 13 4096; walsh e 6 63; reg f 7 1 1;");
        rowDue("a and b", "-1 -1 3", s -> x.alike(0, 1, s));
        rowDue("b and a", "-1 3 -1", s -> x.alike(1, 0, s));
        rowDue("c and d", "9 9 9 9 9 9 9 9 9 9 9 9 13", s -> x.alike(2, 3, s));
        rowDue("d and c", "9 13 9 9 9 9 9 9 9 9 9 9 9", s -> x.alike(3, 2, s));
        due("64 CHIPS", x.alike(4, 4, 0), 64);
        due("127 CHIPS", x.alike(5, 5, 0), 127);
        due("one of seven", x.alike(5, 5, 7), 127 - 4);
        due("one of seven, the other way", x.alike(5, 5, 126 - 6), 127 - 4);
    }

    private static void alikeShifts() {
        sentence("8", "ALIKE at a shift (0 .. LENGTH - 1)");
        SpreadRows x = told(ROWS);
        refused("alike(0, 1, ..)", -1000, s -> x.alike(0, 1, s), -1, 4, 5, -4, MIN, MAX);
        rowDue("alike(0, 1, ..)", "-1000 2 2 -2 -2 -1000", s -> x.alike(0, 1, s - 1));
        rowDue("alike(3, 4, ..)", "-1000 -1 -1000", s -> x.alike(3, 4, s - 1));
    }

    private static void noSuchAlike() {
        sentence("8", "-1000: no such ones, unlike LENGTHS.");
        SpreadRows x = told(ROWS);
        refused("alike(.., 0, 0)", -1000, c -> x.alike(c, 0, 0), -1, 6, 8, MIN, MAX);
        refused("alike(0, .., 0)", -1000, c -> x.alike(0, c, 0), -1, 6, 8, MIN, MAX);
        refused("alike(0, other LENGTHS, 0)", -1000, c -> x.alike(0, c, 0), 2, 3, 4, 5);
        refused("alike(other LENGTHS, 0, 0)", -1000, c -> x.alike(c, 0, 0), 2, 3, 4, 5);
    }

    private static void worstWithoutItsSign() {
        sentence("9", "the greatest ALIKE, without its sign");
        // -+ with itself: -2; -+++ and +---: -4, else 0; -++++ and +++++: 3 each; +---- and +++++: -3 each
        SpreadRows x = told("bits a 2 1; bits b 4 1; bits c 4 14; bits d 5 1; bits e 5 0; bits f 5 30; bits g 3 3; bits h 3 1;");
        due("worst(0, 0)", x.worst(0, 0), 2);
        due("worst(1, 2)", x.worst(1, 2), 4);
        due("worst(3, 4)", x.worst(3, 4), 3);
        due("worst(5, 4)", x.worst(5, 4), 3);
        // --+ and -++: 1 and -3 and 1
        due("worst(6, 7)", x.worst(6, 7), 3);
    }

    private static void worstWithItself() {
        sentence("9", "of all shifts (of a CODE with itself: but 0)");
        SpreadRows x = told(ROWS + "bits p 4 1; reg q 3 3 1;");
        rowDue("each with itself", "0 4 1 0 0 1 0 1 -1", c -> x.worst(c, c));
        // another one with the same CHIPS is alike at 0, whichever is first
        due("worst(0, 6)", x.worst(0, 6), 4);
        due("worst(6, 0)", x.worst(6, 0), 4);
        due("worst(2, 7)", x.worst(2, 7), 7);
        // the last shift counts: -+++ and ++-+ are alike at 2, -+++ and +++- at 3
        SpreadRows y = told("bits a 4 1; bits b 4 8; bits c 13 1; bits d 13 4096;");
        due("worst(0, 1)", y.worst(0, 1), 4);
        due("worst(2, 3)", y.worst(2, 3), 13);
    }

    private static void worstWithoutAny() {
        sentence("9", "0 without any");
        SpreadRows x = told(ROWS);
        due("one CHIP with itself", x.worst(3, 3), 0);
        due("one CHIP with itself", x.worst(4, 4), 0);
        due("one CHIP with another one", x.worst(3, 4), 1);
    }

    private static void noSuchWorst() {
        sentence("9", "WORST; NONE: no such ones, unlike LENGTHS.");
        SpreadRows x = told(ROWS);
        refused("worst(.., 0)", -1, c -> x.worst(c, 0), -1, 6, 8, MIN, MAX, 2, 3, 4, 5);
        refused("worst(0, ..)", -1, c -> x.worst(0, c), -1, 6, 8, MIN, MAX, 2, 3, 4, 5);
        refused("worst(.., ..)", -1, c -> x.worst(c, c), -1, 6, 8, MIN, MAX);
    }

    private static void timesAtEachShift() {
        sentence("10", "At how many shifts they are ALIKE by v");
        SpreadRows x = told(ROWS);
        rowDue("times(0, 1, -3 ..)", "0 2 0 0 0 2 0", v -> x.times(0, 1, v - 3));
        // shift 0 too, with itself too
        rowDue("times(2, 2, -1 ..)", "6 0 0 0 0 0 0 0 1 0", v -> x.times(2, 2, v - 1));
        rowDue("times(1, 1, -4 ..)", "1 0 0 0 2 0 0 0 1", v -> x.times(1, 1, v - 4));
        due("times(3, 3, 1)", x.times(3, 3, 1), 1);
        due("times(3, 4, -1)", x.times(3, 4, -1), 1);
        // far off, and what none can answer, are numbers too
        refused("times(0, 1, ..)", 0, v -> x.times(0, 1, v), -1000, 1000, -5, 5, MIN, MAX);
    }

    private static void noSuchTimes() {
        sentence("10", "they are ALIKE by v; NONE likewise.");
        SpreadRows x = told(ROWS);
        refused("times(.., 0, 0)", -1, c -> x.times(c, 0, 0), -1, 6, 8, MIN, MAX, 2, 3, 4, 5);
        refused("times(0, .., 0)", -1, c -> x.times(0, c, 0), -1, 6, 8, MIN, MAX, 2, 3, 4, 5);
        refused("times(.., .., -1000)", -1, c -> x.times(c, c, -1000), -1, 6);
    }

    private static void depthOfNothing() {
        sentence("11", "the least n (0 and more)");
        SpreadRows x = told("bits a 1 0; bits b 13 0; walsh c 6 0; bits d 1 1; bits e 13 8191; reg f 7 64 127;");
        // all bits 0: 0; all 1: each is the one ahead
        rowDue("depths", "0 0 0 1 1 1", x::depth);
    }

    private static void depthFromThatOn() {
        sentence("11", "are each (from the n-th on) the sum, by rests of 2, of some of the n ahead of it, always the same ones by place (0: all are 0).");
        // 10.. by the second one ahead; 110.. by the two ahead; 100.. by the third one; 1000.. by the fourth
        SpreadRows x = told("bits a 2 1; bits b 3 3; bits c 3 1; bits d 4 1; bits e 4 3; bits f 2 2; bits g 13 1; bits h 13 4096;");
        rowDue("depths", "2 2 3 4 3 2 13 13", x::depth);
        SpreadRows y = told("reg a 7 3 1; reg b 7 3 100; reg c 3 3 1; reg d 6 3 5; reg e 7 1 1; reg f 7 1 2; walsh g 6 1; walsh h 6 32;");
        // an odd number of 1 bits needs all 127, an even one not
        rowDue("depths", "7 7 3 6 127 126 2 33", y::depth);
    }

    private static void depthRoundByRound() {
        sentence("11", "so that its bits (1 where a CHIP is -1), round by round");
        // without the round's end a short rule would do: the 1 that comes again needs all that are ahead
        SpreadRows x = told("bits a 4 8; bits b 12 2048; bits c 12 1; bits d 4 15; bits e 12 1365;");
        rowDue("depths", "4 12 12 1 2", x::depth);
        // 0010111 and its shifts are told by the same rule
        SpreadRows y = told("bits a 7 105; bits b 7 83; bits c 7 39; bits d 7 78;");
        rowDue("depths", "3 3 3 3", y::depth);
    }

    private static void noSuchDepth() {
        sentence("11", "DEPTH; NONE: no such one.");
        SpreadRows x = told(ROWS);
        refused("depth", -1, x::depth, -1, 6, 8, MIN, MAX);
        refused("depth of a new object", -1, c -> new SpreadRows().depth(c), 0, -1);
    }

    private static void familyOfOneLength() {
        sentence("12", "FAMILY for t: the most CODES of one LENGTH");
        SpreadRows x = told("bits a 2 1; bits b 3 1; bits c 2 1; bits d 3 1; bits e 3 2; bits f 1 0;");
        due("all of LENGTH 3", x.family(MAX, 1), 2 + 8 + 16);
        due("how many", x.family(MAX, 0), 3);
        SpreadRows y = told("bits a 13 0; bits b 13 1; bits c 13 2; bits d 13 3; bits e 13 4; bits f 13 5; bits g 13 6; bits h 13 7;");
        due("all eight", y.family(13, 1), 255);
        due("how many", y.family(13, 0), 8);
        // 0 is too much like itself; 1, 2, 4 are one another's shifts, 3 and 6 too
        due("which at 12", y.family(12, 1), 1 << 1 | 1 << 3 | 1 << 5 | 1 << 7);
    }

    private static void familyOrLess() {
        sentence("12", "have a WORST of t or less");
        // WORST of each with itself 0, with the other one 4
        SpreadRows x = told("bits a 4 1; bits b 4 2;");
        rowDue("which", "1 1 1 1 3 3", t -> x.family(t, 1));
        rowDue("how many", "1 1 1 1 2 2", t -> x.family(t, 0));
        due("at the most t", x.family(MAX, 1), 3);
    }

    private static void familyWithItself() {
        sentence("12", "of which each two, and each with itself");
        // -++++ and +++++: 1 and 5 with themselves, 3 with one another
        SpreadRows x = told("bits a 5 1; bits b 5 0;");
        rowDue("which", "0 1 1 1 1 3", t -> x.family(t, 1));
        // 0 goes with 1 and 1 with 2, but not 0 with 2
        SpreadRows y = told("bits a 4 1; walsh b 2 0; bits c 4 1;");
        due("worst(0, 1)", y.worst(0, 1), 2);
        due("worst(0, 2)", y.worst(0, 2), 4);
        rowDue("which", "1 1 1 1 7", t -> y.family(t, 1));
        SpreadRows z = told("reg a 5 5 1; reg b 5 29 1; reg c 5 5 2;");
        int t = Math.max(z.worst(0, 1), z.worst(1, 2));
        due("less than a LENGTH", t < 31, true);
        due("two of three", z.family(t, 1), 3);
    }

    private static void familyLeastBits() {
        sentence("12", "of alike ones the least bits.");
        SpreadRows x = told("bits a 5 0; bits b 4 1; bits c 4 2; bits d 4 4; bits e 4 8;");
        due("one of four", x.family(3, 1), 2);
        // two LENGTHS, two CODES each: 5 and 10; 6 and 9
        due("the first pair", told("bits a 4 1; bits b 3 1; bits c 4 1; bits d 3 1;").family(9, 1), 5);
        due("the inner pair", told("bits a 4 1; bits b 3 1; bits c 3 1; bits d 4 1;").family(9, 1), 6);
        // three go ahead of two with less bits
        due("three", told("bits a 4 1; bits b 4 1; bits c 3 1; bits d 3 1; bits e 3 1;").family(9, 1), 28);
    }

    private static void familyEmpty() {
        sentence("12", "FAMILY: what 0 how many, 1 the CODES (bits)");
        SpreadRows none = new SpreadRows();
        due("without CODES", none.family(0, 0), 0);
        due("without CODES", none.family(0, 1), 0);
        due("without CODES", none.family(MAX, 1), 0);
        SpreadRows x = told("bits a 5 0; bits b 5 31;");
        due("none little enough alike", x.family(4, 0), 0);
        due("none little enough alike", x.family(4, 1), 0);
        due("both", x.family(5, 0), 2);
        due("both", x.family(5, 1), 3);
        due("the eighth", told("bits a 5 0; bits b 5 0; bits c 5 0; bits d 5 0; bits e 5 0; bits f 5 0; bits g 5 0; bits h 5 1;").family(4, 1), 128);
    }

    private static void noSuchFamily() {
        sentence("12", "NONE: t below 0, no such what.");
        SpreadRows x = told(ROWS);
        refused("family(.., 0)", -1, t -> x.family(t, 0), -1, -2, MIN);
        refused("family(.., 1)", -1, t -> x.family(t, 1), -1, -2, MIN);
        refused("family(0, ..)", -1, w -> x.family(0, w), -1, 2, MIN, MAX);
        refused("family of a new object", -1, w -> new SpreadRows().family(0, w), -1, 2);
        due("t 0", x.family(0, 0), 1);
    }
}
