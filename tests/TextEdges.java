import java.util.ArrayList;
import java.util.Arrays;
import java.util.List;
import java.util.TreeSet;

/** The document's I and its promises 1 to 5: texts, tokens, numbers, FAULTS. */
final class TextEdges extends Kit {
    private static final String[] WORDS = {"reg", "walsh", "bits", "both", "hop", "send", "echo", "jam", "noise", "samples", "drift"};
    /** Every TELL by its TOKENS: a for a NAME, 1 for an INT. */
    private static final String[] TELLS = {"reg a 1 1 1 ;", "walsh a 1 1 ;", "bits a 1 1 ;", "both a a a 1 ;", "hop a 1 1 1 ;",
        "send a a 1 1 1 1 ;", "send a a 1 1 1 1 drift 1 ;", "echo a 1 1 ;", "echo a 1 - 1 ;", "jam 1 1 1 1 ;", "noise 1 1 ;", "samples 1 ;"};
    private static final int[] PRIMES = {2, 3, 5, 7, 11, 13, 17, 19, 23, 29, 31};
    /** A CODE, a HOP and a SENDER, each with a NAME of its own. */
    private static final String THREE_KINDS = "bits c 4 1; hop h 5 1 1; send s c 1 0 0 0;";

    private TextEdges() {
    }

    static void all() {
        aTextHas2000Bytes();
        blanks();
        theLongestThatCanBe();
        names();
        wordsAreNoNames();
        ints();
        signs();
        longerOnes();
        tells();
        numbered();
        registers();
        registersGoOn();
        walsh();
        bits();
        both();
        hops();
        samples();
        senders();
        drifts();
        echoes();
        jams();
        noises();
        theLastOneTold();
        theFirstByItsPlace();
        theTextsEnd();
        ofOnePlaceTheLeast();
        syntax();
        tokensMost();
        tellsMost();
        atItsFirstToken();
        ifThereIsNone();
        twice();
        toldAhead();
        wrongAtTheInt();
        whatHangsOnAnother();
        unlikeLengths();
        changesNothing();
        inPlaceOfTheOneAhead();
        laidAnew();
        aNewObject();
        feedTwenty();
        feedTooMany();
        backTheLast();
        backTooMany();
        readEmpties();
        placeOfTheLatest();
    }

    private static String blank(int n) {
        return " ".repeat(n);
    }

    private static char sign(int number) {
        return (char) number;
    }

    // ---- tokens

    private static void aTextHas2000Bytes() {
        sentence("2 4", "A TEXT has 2,000 bytes at most.");
        SpreadRows x = new SpreadRows();
        write(x, blank(1989) + "samples 16;");
        due("count(6)", x.count(6), 2000);
        due("one byte more", x.feed(0, 0, 0, 0, 0), -1);
        due("count(6)", x.count(6), 2000);
        due("read()", x.read(), 0);
        due("count(5)", x.count(5), 16);
        faultAt(1, 1999, blank(1999) + "x");
        faultAt(1, 2000, blank(1990) + "samples 16");
    }

    private static void blanks() {
        sentence("4", "with blanks (9, 10, 13, 32) between or not");
        for (int b = 0; b < 256; b++) {
            if (b == 9 || b == 10 || b == 13 || b == 32) {
                fine(sign(b) + "samples" + sign(b) + sign(b) + "16" + sign(b) + ";" + sign(b));
            } else {
                faultAt(1, 0, sign(b) + " samples 16;");
                faultAt(1, 11, "samples 16;" + sign(b));
            }
        }
        fine("reg a 3 1 1;walsh b 2 1;bits c 2 1;both d b b 1;hop e 5 1 1;send f a 1 0 0 0drift 9;echo f1-1;jam 0 0 1 1;noise 0 0;samples16;");
        fine("bits\na\n4\n1\n;\n");
        fine("");
        fine(" \t\r\n");
    }

    private static void theLongestThatCanBe() {
        sentence("4", "TOKENS, the longest that can be");
        fault(1, "^rega 3 1 1;");
        fault(1, "^sam ples 16;");
        fault(1, "samples 1 ^6;");
        fault(1, "bits a 4 1 ^0;");
        fine("bits rega 4 1; bits drifts 4 1; bits jamm 4 1; bits ech 4 1;");
        SpreadRows x = told("samples 300;");
        due("count(5)", x.count(5), 300);
    }

    private static void names() {
        sentence("4", "NAMES (letters a .. z, 8 at most");
        fine("bits a 4 1; bits z 4 1; bits az 4 1; bits abcdefgh 4 1; bits zzzzzzzz 4 1;");
        fault(1, "bits ^abcdefghi 4 1;");
        fault(1, "bits ^zzzzzzzzz 4 1;");
        fault(1, "bits ^" + "a".repeat(1900) + " 4 1;");
        // the signs beside a and z, and those in upper case
        for (char c : new char[] {'`', '{', '@', '[', 'A', 'Z', '_', '.', sign(0xe1), sign(0xff)}) {
            fault(1, "bits ^" + c + " 4 1;");
            fault(1, "bits a^" + c + " 4 1;");
        }
        // every letter counts
        fine("bits a 4 1; bits aa 4 1; bits aaa 4 1; bits aaaaaaaa 4 1; bits aaaaaaab 4 1; bits baaaaaaa 4 1; bits aaaabaaa 4 1; bits b 4 1;");
    }

    private static void wordsAreNoNames() {
        sentence("4", "none of the words in quotes");
        for (String word : WORDS) {
            fault(1, "bits ^" + word + " 4 1;");
            fine("bits " + word + "s 4 1;");
            fine("bits x" + word + " 4 1;");
            if (word.length() > 1) fine("bits " + word.substring(1) + " 4 1;");
        }
    }

    private static void ints() {
        sentence("4", "INTS (1 to 4 digits)");
        fine("samples 16; noise 0 0; noise 00 000; noise 0009 0000; noise 5 9999; samples 0016;");
        due("count(5)", told("samples 0099;").count(5), 99);
        fault(1, "samples ^00016;");
        fault(1, "noise 5 ^10000;");
        fault(1, "noise ^00000 1;");
        fault(1, "noise 5 ^" + "0".repeat(500) + ";");
        // what would be a small number again in 32 or 64 bits
        fault(1, "samples ^4294967312;");
        fault(1, "samples ^18446744073709551632;");
        // the signs beside 0 and 9
        fault(1, "samples 1^/;");
        fault(1, "samples 1^:;");
        fault(1, "noise 1 ^;");
    }

    private static void signs() {
        sentence("4", "SIGNS ; - .");
        for (int b = 33; b < 127; b++) {
            boolean other = !Character.isLetterOrDigit(b) && b != ';' && b != '-';
            if (other) fault(1, "bits a 4 1^" + sign(b));
            if (other) fault(1, "bits c 4 1; send s c 1 0 0 0; echo s 1^" + sign(b) + "1;");
        }
        // each of them is one by itself
        fault(1, "bits a 4 1;^;");
        fault(1, "bits c 4 1; send s c 1 0 0 0; echo s 1-^-1;");
        fine("bits c 4 1; send s c 1 0 0 0; echo s 1-1; echo s 1 -1; echo s 1- 1; echo s 1\n-\n1;");
    }

    private static void longerOnes() {
        sentence("4", "A longer one, all else, is no TOKEN.");
        // where there is room for no TOKEN more, what is none is SYNTAX
        String full = "noise 1 1;".repeat(100);
        fault(1, full + "^abcdefghi");
        fault(1, full + "^samplesss");
        fault(1, full + "^12345");
        fault(1, full + "^.");
        fault(2, full + "^samples");
    }

    /** Of all TELLS that begin with some TOKENS, those that may come next. */
    private static TreeSet<String> next(List<String> begun) {
        TreeSet<String> all = new TreeSet<>();
        for (String tell : TELLS) {
            List<String> tokens = Arrays.asList(tell.split(" "));
            if (tokens.size() > begun.size() && tokens.subList(0, begun.size()).equals(begun)) all.add(tokens.get(begun.size()));
        }
        return all;
    }

    private static void tells() {
        sentence("4", "text: {TELL}. TELL: 'reg' NAME INT INT INT ';' | 'walsh' NAME INT INT ';' | 'bits' NAME INT INT ';' | 'both' NAME NAME NAME INT ';' |"
            + " 'hop' NAME INT INT INT ';' | 'send' NAME NAME INT INT INT INT ['drift' INT] ';' | 'echo' NAME INT ['-'] INT ';' | 'jam' INT INT INT INT ';' |"
            + " 'noise' INT INT ';' | 'samples' INT ';'.");
        List<String> kinds = new ArrayList<>(List.of(WORDS));
        kinds.addAll(List.of("a", "1", ";", "-", "."));
        for (String tell : TELLS) {
            List<String> tokens = Arrays.asList(tell.split(" "));
            for (int k = 0; k < tokens.size(); k++) {
                List<String> begun = tokens.subList(0, k);
                String text = String.join(" ", begun);
                if (k > 0) fault(1, text + "^");
                for (String kind : kinds) if (!next(begun).contains(kind)) fault(1, text + " ^" + kind + " 1 1 1 ;");
            }
            for (String kind : kinds) if (!next(List.of()).contains(kind)) fault(1, tell + " ^" + kind);
            SpreadRows x = new SpreadRows();
            due("no SYNTAX in " + tell, read(x, tell) == 1, false);
            due("no SYNTAX in two of " + tell, read(x, tell + tell) == 1, false);
        }
    }

    // ---- what is told

    private static void numbered() {
        sentence("4 6 40 48", "CODES, HOPS, SENDERS, ECHOES, JAMS are numbered each from 0 on as they stand.");
        SpreadRows x = told("hop h 7 1 1; walsh w 3 1; bits b 5 1; send s b 1 0 0 0; hop g 3 1 1; jam 0 0 1 1; reg r 2 3 1; send t w 2 0 0 0;"
            + "echo t 1 1; both c r r 1; send u r 3 0 0 0; echo s 1 1; hop i 11 1 1;");
        rowDue("LENGTHS", "-1 8 5 3 3 -1", c -> x.code(c - 1, 0));
        rowDue("primes", "-1 7 3 11 -1", h -> x.count(19 + h));
        rowDue("AMPLITUDES", "-1000000 -1 2 -3 -1000000", s -> x.wave(s - 1, 0, false));
        rowDue("counts", "4 3 3 2 1", x::count);
    }

    private static void registers() {
        sentence("4 6", "REG: n (2 .. 7), taps (1 .. 2 to the n, less 1), start (likewise): LENGTH 2 to the n, less 1.");
        bounds("reg a # 1 1;", 2, 7);
        for (int n = 2; n <= 7; n++) {
            int most = (1 << n) - 1;
            bounds("reg a " + n + " # 1;", 1, most);
            bounds("reg a " + n + " " + most + " #;", 1, most);
            due("LENGTH of " + n, told("reg a " + n + " 1 1;").code(0, 0), most);
        }
    }

    private static void registersGoOn() {
        sentence("7", "CHIP i is -1 if the state's lowest bit is 1, else 1; then the state goes one bit down, and its bit n - 1 becomes 1"
            + " if of the bits of the state ahead that taps has an odd number were 1.");
        // by 2 bits: 1, 2, 3; 1, 2, 1; 1, 0, 0 (a state of 0 goes on as 0); 2, 3, 1
        SpreadRows x = told("reg a 2 3 1; reg b 2 1 1; reg c 2 2 1; reg d 2 3 2; reg e 7 64 127; reg f 7 127 64; reg g 7 1 64;");
        rowDue("chips", "-1 1 -1 0", i -> x.chip(0, i));
        rowDue("chips", "-1 1 -1 0", i -> x.chip(1, i));
        rowDue("chips", "-1 1 1 0", i -> x.chip(2, i));
        rowDue("chips", "1 -1 -1 0", i -> x.chip(3, i));
        // the highest bit, told by itself alone, stays 1
        due("all -1", x.code(4, 1), 127);
        // 1000000, 1100000, 0110000, 0011000, .. : a 1 comes in, a second one, then an even number is 0 till the first goes out
        rowDue("chips", "1 1 1 1 1 1 -1 -1 1", i -> x.chip(5, i));
        // each seventh one
        due("18 times 7 of 127", x.code(6, 1), 18);
        rowDue("chips", "1 1 1 1 1 1 -1 1 1 1 1 1 1 -1 1", i -> x.chip(6, i));
    }

    private static void walsh() {
        sentence("4 6 7", "WALSH: n (1 .. 6), r (0 .. 2 to the n, less 1): LENGTH 2 to the n; CHIP i is -1 if i and r have an odd number of 1 bits in common.");
        bounds("walsh a # 0;", 1, 6);
        for (int n = 1; n <= 6; n++) {
            bounds("walsh a " + n + " #;", 0, (1 << n) - 1);
            due("LENGTH of " + n, told("walsh a " + n + " 0;").code(0, 0), 1 << n);
        }
        SpreadRows x = told("walsh a 1 1; walsh b 6 63; walsh c 6 32; walsh d 6 0; walsh e 3 7;");
        rowDue("chips", "0 1 -1 0", i -> x.chip(0, i - 1));
        rowDue("chips", "1 -1 -1 1 -1 1 1 -1 0", i -> x.chip(4, i));
        rowDue("the last of 64", "-1 1 0", i -> x.chip(1, 62 + i));
        rowDue("by halves", "1 -1", i -> x.chip(2, 31 + i));
        due("all 1", x.code(3, 1), 0);
    }

    private static void bits() {
        sentence("4 6 7", "BITS: a LENGTH 1 .. 13 and a number below 2 to that: CHIP i is -1 if its bit i is 1.");
        bounds("bits a # 0;", 1, 13);
        for (int n = 1; n <= 13; n++) {
            bounds("bits a " + n + " #;", 0, (1 << n) - 1);
            due("LENGTH of " + n, told("bits a " + n + " 0;").code(0, 0), n);
        }
        SpreadRows x = told("bits a 13 4096; bits b 13 1; bits c 1 1;");
        rowDue("the last bit", "1 1 1 1 1 1 1 1 1 1 1 1 -1 0", i -> x.chip(0, i));
        rowDue("the first bit", "-1 1 1 1 1 1 1 1 1 1 1 1 1 0", i -> x.chip(1, i));
        rowDue("the one bit", "-1 0", i -> x.chip(2, i));
    }

    private static void both() {
        sentence("4 7", "BOTH: two CODES of one LENGTH and a shift below it: CHIP i is that of the first one times CHIP i + shift of the second one.");
        bounds("bits a 4 1; bits b 4 2; both c a b #;", 0, 3);
        bounds("bits a 1 0; both c a a #;", 0, 0);
        bounds("reg a 7 1 1; reg b 7 1 2; both c b a #;", 0, 126);
        // -++ and +-+, the second one from its end on again
        SpreadRows x = told("bits a 3 1; bits b 3 2; both c a b 0; both d a b 1; both e a b 2; both f b a 2; both g d d 1;");
        rowDue("shift 0", "-1 -1 1 0", i -> x.chip(2, i));
        rowDue("shift 1", "1 1 1 0", i -> x.chip(3, i));
        rowDue("shift 2", "-1 1 -1 0", i -> x.chip(4, i));
        rowDue("the other way", "1 1 1 0", i -> x.chip(5, i));
        rowDue("of both", "1 1 1 0", i -> x.chip(6, i));
    }

    private static void hops() {
        sentence("4 40", "HOP: a prime p up to 31, a, b below it");
        for (int p = 0; p <= 40; p++) {
            if (Arrays.binarySearch(PRIMES, p) >= 0) {
                bounds("hop h " + p + " # 0;", 0, p - 1);
                bounds("hop h " + p + " " + (p - 1) + " #;", 0, p - 1);
            } else {
                fault(5, "hop h ^" + p + " 0 0;");
            }
        }
        // primes beyond 31, and what is one of 32 or 64 further
        for (int p : new int[] {37, 41, 61, 66, 67, 95, 97, 258, 9973, 9999}) fault(5, "hop h ^" + p + " 0 0;");
    }

    private static void samples() {
        sentence("4 48", "SAMPLES: how many come in, 16 .. 512 (256 if not told).");
        bounds("samples #;", 16, 512);
        due("the least", told("samples 16;").count(5), 16);
        due("the most", told("samples 512;").count(5), 512);
        due("not told", told("noise 1 1;").count(5), 256);
        due("a new object", new SpreadRows().count(5), 256);
    }

    private static void senders() {
        sentence("4", "SEND: a NAME, a CODE, AMPLITUDE 1 .. 99, DELAY 0 .. LENGTH - 1, TONE 0 .. 3, DATA 0 .. 9999");
        String code = "bits a 4 1;";
        bounds(code + "send s a # 0 0 0;", 1, 99);
        bounds(code + "send s a 1 # 0 0;", 0, 3);
        bounds("bits a 1 1; send s a 1 # 0 0;", 0, 0);
        bounds("reg a 7 1 1; bits b 13 0; send s a 1 # 0 0;", 0, 126);
        bounds(code + "send s a 1 0 # 0;", 0, 3);
        bounds(code + "send s a 1 0 0 #;", 0, 9999);
        fault(1, code + "send s a 1 0 0 ^10000;");
    }

    private static void drifts() {
        sentence("4 15", "DRIFT 1 .. 99 (none if not told)");
        bounds("bits a 4 1; send s a 1 0 0 0 drift #;", 1, 99);
        // one PERIOD of 1 sample each: none, at each second sample, at each 99th one
        SpreadRows x = told("bits a 1 0; samples 200; send s a 1 0 0 0; send t a 1 0 0 0 drift 2; send u a 1 0 0 0 drift 99;");
        rowDue("PERIODS", "200 101 198", s -> x.count(10 + s));
        // a DRIFT told ahead is not that of the next SENDER, of the next text
        SpreadRows y = told("bits a 1 0; samples 16; send s a 1 0 0 0 drift 2; send t a 1 0 0 0;");
        rowDue("PERIODS", "9 16", s -> y.count(10 + s));
        due("read", read(y, "bits a 1 0; samples 16; send s a 1 0 0 0;"), 0);
        due("PERIODS", y.count(10), 16);
    }

    private static void echoes() {
        sentence("4", "ECHO: of a SENDER, how many samples later 1 .. 99, its AMPLITUDE -99 .. 99, not 0.");
        String sender = "bits a 1 0; send s a 1 0 0 0;";
        bounds(sender + "echo s # 1;", 1, 99);
        bounds(sender + "echo s # - 1;", 1, 99);
        bounds(sender + "echo s 1 #;", 1, 99);
        bounds(sender + "echo s 1 - #;", 1, 99);
        bounds(sender + "echo s 1-#;", 1, 99);
        SpreadRows x = told(sender + "echo s 99 - 99; echo s 1 99;");
        due("the least", x.sample(99, false), 1 + 99 - 99);
        due("the most", x.sample(98, false), 1 + 99);
        due("none", x.sample(0, false), 1);
    }

    private static void jams() {
        sentence("4", "JAM: from, to (samples 0 .. 511, to not below from), AMPLITUDE 1 .. 99, each 1 .. 99.");
        bounds("jam # 511 1 1;", 0, 511);
        bounds("jam 0 # 1 1;", 0, 511);
        bounds("jam 511 # 1 1;", 511, 511);
        bounds("jam 7 # 1 1;", 7, 511);
        bounds("jam 0 0 # 1;", 1, 99);
        bounds("jam 0 0 1 #;", 1, 99);
        // of SAMPLES it may tell more than there are
        fine("samples 16; jam 511 511 1 1; jam 0 511 1 1;");
    }

    private static void noises() {
        sentence("4 48", "NOISE: most 0 .. 50, a SEED.");
        bounds("noise # 1;", 0, 50);
        bounds("noise 1 #;", 0, 9999);
        due("not told", told("samples 16;").count(8), 0);
        due("the most", told("noise 50 1;").count(8), 50);
    }

    private static void theLastOneTold() {
        sentence("4 48", "Of several samples, noises the last one told.");
        SpreadRows x = told("samples 512; noise 50 1; samples 16; noise 3 7; samples 20; noise 2 9;");
        due("count(5)", x.count(5), 20);
        due("count(8)", x.count(8), 2);
        SpreadRows y = told("samples 20; noise 2 9;");
        for (int i = 0; i < 20; i++) due("sample " + i, x.sample(i, i % 3 == 0), y.sample(i, i % 3 == 0));
        SpreadRows z = told("noise 9 9; noise 0 5;");
        due("no noise", z.power(0, 255), 0);
        // those ahead must be well too
        fault(5, "samples ^513; samples 16;");
        fault(5, "noise ^51 1; noise 1 1;");
    }

    // ---- FAULTS

    private static void theFirstByItsPlace() {
        sentence("4 5", "FAULTS of a text, the first by its place (a byte; the text's end: its length)");
        fault(1, "bits a 4 ^; bits b 4 ;");
        fault(1, "\n\n\tbits a\r\n4 ^;");
        fault(2, "jam 0 0 1 1;".repeat(4) + "^jam 0 0 1 1; bits a 4 ;");
        fault(1, "jam 0 0 1 1;".repeat(3) + "jam 0 0 1 ^; jam 0 0 1 1; jam 0 0 1 1;");
        // TWICE, NAME, WRONG in each of their turns
        fault(3, "bits a 4 1; bits ^a 4 1; send s q 1 0 0 0; jam 999 0 1 1;");
        fault(3, "bits a 4 1; bits ^a 14 1;");
        fault(4, "bits a 4 1; send s ^q 1 0 0 0; bits a 4 1; jam 999 0 1 1;");
        fault(4, "bits a 4 1; send s ^q 999 0 0 0;");
        fault(5, "bits a 4 1; jam ^999 0 1 1; bits a 4 1; send s q 1 0 0 0;");
        fault(5, "bits a ^14 1; bits a 4 1;");
    }

    private static void theTextsEnd() {
        sentence("4 5", "the text's end: its length");
        fault(1, "bits a 4 1^");
        fault(1, "bits a 4 1 \n ^");
        fault(1, "bits^");
        fault(1, "bits a 4 1; samples^");
        fault(1, "bits a 4 1; send s a 1 0 0 0 drift^");
        faultAt(1, 2000, "noise 1 1;".repeat(99) + blank(1005) + "noise");
        // with 400 TOKENS no one more is wanted for this
        fault(1, "samples 16;".repeat(132) + "noise 1 1^");
        fault(1, "samples 16;".repeat(133) + "noise^");
    }

    private static void ofOnePlaceTheLeast() {
        sentence("4 5", "of one place the least");
        // a 401st TOKEN with which no text goes on; one that is none
        String full = "samples 16;".repeat(132) + "noise 1 1;";
        for (String more : new String[] {"drift", "a", "1", ";", "-", ".", "12345", "abcdefghi"}) fault(1, full + "^" + more);
        for (String more : new String[] {"reg", "walsh", "bits", "both", "hop", "send", "echo", "jam", "noise", "samples"}) fault(2, full + "^" + more);
        String inside = "samples 16;".repeat(133) + "noise ";
        fault(2, inside + "^1");
        fault(1, inside + "^;");
        String minus = "samples 16;".repeat(132) + "echo a 1 -";
        fault(2, minus + "^1;");
        fault(1, minus + "^-;");
        // a NAME told already that is the second one of BOTH, of another LENGTH
        fault(4, "bits a 4 1; bits b 5 1; hop h 5 1 1; both c a ^h 0;");
    }

    private static void syntax() {
        sentence("4", "1 SYNTAX: a TOKEN, or what is none, with which no text goes on.");
        fault(1, "^drift 1;");
        fault(1, "bits a 4 1;^;");
        fault(1, "bits a 4 1;^#");
        fault(1, "bits a 4 ^-1;");
        fault(1, "noise ^-1 1;");
        fault(1, "bits a 4 1; send s a 1 0 0 0 drift 1 ^drift 1;");
        fault(1, "bits a 4 1; send s a 1 0 0 0 ^0 drift 1;");
        fault(1, "bits a 4 1; send s a 1 0 0 0; echo s ^-1 1;");
        fault(1, "bits a 4 1; send s a 1 0 0 0; echo s 1 -^- 1;");
    }

    private static void tokensMost() {
        sentence("4", "2 ROOM: a 401st TOKEN");
        String full = "samples 16;".repeat(132) + "noise 1 1;";
        fine(full);
        fine(full + " \n\t");
        fault(2, full + "^noise 1 1;");
        fault(2, full + blank(30) + "^noise 1 1;");
        // 399 and one TELL more: its second TOKEN is too many
        fault(2, "samples 16;".repeat(133) + "noise ^1 1;");
        fault(2, "samples 16;".repeat(132) + "bits a 4 1^;");
    }

    private static void tellsMost() {
        sentence("4 48", "a 9th CODE (of all kinds together), a 7th hop, send or echo, a 5th jam");
        String codes = "reg a 2 1 1; walsh b 2 1; bits c 2 1; both d c c 1; reg e 2 1 1; walsh f 2 1; bits g 2 1; both h c c 1;";
        String hops = "", senders = "";
        for (char c = 'a'; c < 'g'; c++) {
            hops += "hop h" + c + " 5 1 1;";
            senders += "send s" + c + " c 1 0 0 0;";
        }
        String echoes = "echo sa 1 1;".repeat(6), jams = "jam 0 0 1 1;".repeat(4);
        String full = codes + hops + senders + echoes + jams;
        SpreadRows x = told(full);
        rowDue("counts", "8 6 6 6 4", x::count);
        for (String ninth : new String[] {"reg z 2 1 1;", "walsh z 2 1;", "bits z 2 1;", "both z c c 1;"}) {
            fault(2, codes + "^" + ninth);
            fault(2, full + "^" + ninth);
        }
        fault(2, hops + "^hop z 5 1 1;");
        fault(2, codes + senders + "^send z c 1 0 0 0;");
        fault(2, full + "^send z c 1 0 0 0 drift 1;");
        fault(2, codes + senders + echoes + "^echo sb 1 1;");
        fault(2, jams + "^jam 0 0 1 1;");
        fault(2, full + "^jam 0 0 1 1;");
        // six ECHOES of one SENDER or of six
        String spread = "";
        for (char c = 'a'; c < 'g'; c++) spread += "echo s" + c + " 1 1;";
        fine(codes + senders + spread);
        fine(codes + hops + senders + spread + jams);
        fault(2, codes + senders + spread + "^echo sa 1 1;");
        // samples and noises have room
        fine("samples 16;".repeat(60) + "noise 1 1;".repeat(50));
    }

    private static void atItsFirstToken() {
        sentence("4 5", "(at its first TOKEN)");
        String jams = "jam 0 0 1 1;".repeat(4), codes = "";
        for (char c = 'a'; c < 'i'; c++) codes += "bits " + c + " 2 1;";
        fault(2, jams + "^jam");
        fault(2, jams + " ^jam ;");
        fault(2, jams + " ^jam 0 0 1 1");
        fault(2, codes + "^walsh . 3;");
        fault(2, codes + "^both 12345");
    }

    private static void ifThereIsNone() {
        sentence("4 5", "If there is none, likewise: 3 TWICE");
        // whatever is TWICE, no NAME or WRONG goes behind SYNTAX and ROOM
        fault(1, "bits a 4 1; bits a 4 1; ^.");
        fault(1, "send s q 1 0 0 0; bits^");
        fault(1, "jam 999 0 0 0; samples ^a");
        fault(2, "bits a 99 1; bits a 4 1;" + "jam 9 8 0 0;".repeat(4) + "^jam 9 8 0 0;");
        fault(2, "noise 99 1;" + "samples 1;".repeat(132) + "^samples 1;");
    }

    private static void twice() {
        sentence("4", "3 TWICE: a NAME told already (of CODES, HOPS and SENDERS, all together).");
        String[] tells = {"reg a 2 1 1;", "walsh a 2 1;", "bits a 4 1;", "both a z z 0;", "hop a 5 1 1;", "send a z 1 0 0 0;"};
        for (String first : tells) {
            fine("bits z 4 1;" + first + first.replace(" a ", " b "));
            for (String second : tells) {
                fault(3, "bits z 4 1;" + first + second.replace(" a ", " ^a "));
                fault(3, "bits z 4 1;" + first + "noise 1 1; hop q 3 1 1;" + second.replace(" a ", " ^a "));
            }
        }
        // an ECHO tells no NAME
        fine("bits z 4 1; send a z 1 0 0 0; echo a 1 1; echo a 1 1;");
        // nor does a text that had a FAULT, or the one ahead
        SpreadRows x = new SpreadRows();
        due("read", read(x, "bits a 4 1; bits b 4 99;"), 5);
        due("read", read(x, "bits a 4 1; bits b 4 1;"), 0);
        due("read", read(x, "bits a 4 1; bits b 4 1;"), 0);
    }

    private static void toldAhead() {
        sentence("4", "4 NAME: no such one told ahead (both, send: CODES; echo: a SENDER).");
        for (String kind : new String[] {"q", "h", "s", "t"}) {
            fault(4, THREE_KINDS + "send t ^" + kind + " 1 0 0 0;");
            fault(4, THREE_KINDS + "both t ^" + kind + " c 0;");
            fault(4, THREE_KINDS + "both t c ^" + kind + " 0;");
        }
        for (String kind : new String[] {"q", "h", "c"}) fault(4, THREE_KINDS + "echo ^" + kind + " 1 1;");
        fine(THREE_KINDS + "send t c 1 0 0 0; both d c c 0; echo s 1 1; send u d 1 0 0 0;");
        // one that is told behind
        fault(4, "send s ^c 1 0 0 0; bits c 4 1;");
        fault(4, "both d ^c c 0; bits c 4 1;");
        fault(4, "bits c 4 1; echo ^s 1 1; send s c 1 0 0 0;");
        // the TELL's own NAME, and one that a text ahead told
        fault(4, "both d ^d d 0;");
        fault(4, "bits c 4 1; both d c ^d 0;");
        SpreadRows x = new SpreadRows();
        due("read", read(x, THREE_KINDS), 0);
        due("read", read(x, "send s c 1 0 0 0;"), 4);
        due("read", read(x, "echo s 1 1;"), 4);
    }

    private static void wrongAtTheInt() {
        sentence("4 5", "5 WRONG (at the INT): a number not as told above");
        fault(5, "bits  c \n ^0000 1;");
        fault(5, "bits c 4 1; send s c 1 0 0 0; echo s 1 - \t ^0 ;");
        fault(5, "bits c 4 1; send s c 1 0 0 0; echo s 1-^100;");
        fault(5, "bits c 4 1; send s c 1 0 0 0 drift\n^0;");
        fault(5, "bits c 4 1; both d c c ^4;");
        fault(5, "samples ^0;");
    }

    private static void whatHangsOnAnother() {
        sentence("4 5", "what hangs on another one is looked at only if that one is well: taps, start, r, a number of BITS, DELAY, a shift, a, b, to");
        fault(5, "reg a ^1 9999 9999;");
        fault(5, "reg a ^8 9999 9999;");
        fault(5, "reg a 3 ^8 8;");
        fault(5, "walsh a ^0 9999;");
        fault(5, "walsh a ^7 9999;");
        fault(5, "bits a ^0 9999;");
        fault(5, "bits a ^14 9999;");
        fault(4, "send s ^q 0 9999 4 0;");
        fault(4, "both a ^q q 9999;");
        fault(5, "hop h ^1 9999 9999;");
        fault(5, "hop h ^4 9999 9999;");
        fault(5, "jam ^512 0 0 0;");
        // and then it is
        fault(5, "reg a 2 ^4 4;");
        fault(5, "reg a 2 3 ^4;");
        fault(5, "walsh a 1 ^2;");
        fault(5, "bits a 13 ^8192;");
        fault(5, "hop h 2 ^2 2;");
        fault(5, "hop h 2 1 ^2;");
        fault(5, "jam 511 ^510 0 0;");
        fault(5, "bits a 13 0; bits b 2 0; send s b 1 ^2 0 0;");
    }

    private static void unlikeLengths() {
        sentence("4 5", "both: at the second CODE's NAME, if LENGTHS are unlike.");
        fault(5, "bits a 4 1; bits b 5 1; both c a ^b 0;");
        fault(5, "bits a 4 1; bits b 5 1; both c b ^a 9999;");
        fault(5, "reg a 7 1 1; walsh b 6 1; both c a ^b 0;");
        fine("bits a 4 1; walsh b 2 1; both c a b 3; both d c b 0;");
        fine("bits a 7 1; reg b 3 1 1; both c b a 6;");
    }

    /** What an object answers of all that it holds. */
    private static String state(SpreadRows x) {
        StringBuilder all = new StringBuilder(row(27, x::count));
        for (int c = 0; c < 3; c++) {
            int code = c;
            all.append(" / ").append(row(5, i -> x.chip(code, i))).append(' ').append(x.depth(c));
            all.append(' ').append(row(4, i -> x.hop(code, i))).append(' ').append(row(12, i -> x.wave(code, i, false)));
        }
        all.append(" / ").append(row(20, i -> x.sample(i, false))).append(" / ").append(row(20, i -> x.sample(i, true)));
        return all.append(' ').append(x.atOnce(2)).append(' ').append(x.family(9, 1)).toString();
    }

    private static void changesNothing() {
        sentence("4 13 47 48", "A text with a FAULT changes nothing but the tape");
        String other = "walsh a 1 1; bits b 2 1; reg c 2 1 1; hop h 3 1 1; hop g 31 1 1; samples 100; noise 50 50; send s b 99 1 2 9999 drift 1;"
            + "echo s 2 - 2; jam 0 99 99 1; samples 90; send t c 9 1 1 1;";
        String[] faults = {other + "oh", other + "jam 0 0 1 1;".repeat(4), other + "hop a 3 1 1;", other + "echo h 1 1;", other + "noise 51 1;"};
        for (int number = 1; number <= faults.length; number++) {
            SpreadRows x = told("bits a 5 9; bits b 4 3; hop h 7 1 2; samples 18; send s a 3 2 1 77; echo s 2 5; jam 1 9 4 2; noise 4 4;");
            x.hold(2);
            x.add(0, 5);
            x.hold(0);
            x.noise(9, 9);
            String ahead = state(x);
            due("read", read(x, faults[number - 1]), number);
            due("state behind FAULT " + number, state(x), ahead);
            due("restore(1)", x.restore(1), false);
            due("restore(0)", x.restore(0), true);
            x.add(0, -5);
            long power = x.power(0, 17);
            due("restore(2)", x.restore(2), true);
            due("power of SLOT 2", x.power(0, 17), power);
            x.anew();
            due("power as told", x.power(0, 17), power);
        }
    }

    private static void inPlaceOfTheOneAhead() {
        sentence("4 48", "else it is in place of the one ahead: WHAT COMES IN is laid anew, SLOTS hold nothing.");
        SpreadRows x = told("bits a 5 9; bits b 4 3; hop h 7 1 2; hop g 5 1 1; samples 18; send s a 3 2 1 77 drift 1; echo s 2 5; jam 1 9 4 2; noise 4 4;");
        for (int slot = 0; slot < 3; slot++) x.hold(slot);
        due("count(7)", x.count(7), 3);
        due("read", read(x, "bits q 2 1; hop k 3 1 1; send t q 7 0 0 0;"), 0);
        rowDue("counts", "1 1 1 0 0 256 0 0 0", x::count);
        due("LENGTH", x.code(0, 0), 2);
        due("no code", x.code(1, 0), -1);
        due("CHANNEL", x.hop(0, 1), 2);
        due("no hop", x.hop(1, 0), -1);
        rowDue("re", "-7 7 -7 7 -7 7 -7 7 -7 7 -7 7 -7 7 -7 7 -7 7 -7", i -> x.sample(i, false));
        due("power", x.power(0, 255), 256 * 49);
        for (int slot = 0; slot < 3; slot++) due("restore " + slot, x.restore(slot), false);
        // an empty one too
        x.hold(1);
        due("read", x.read(), 0);
        rowDue("counts", "0 0 0 0 0 256 0 0 0", x::count);
        due("power", x.power(0, 255), 0);
        due("restore 1", x.restore(1), false);
    }

    private static void laidAnew() {
        sentence("4 13", "WHAT COMES IN is laid anew");
        // what was added goes, though the text is the same one
        String text = "bits a 1 0; samples 16; send s a 3 0 0 0;";
        SpreadRows x = told(text);
        x.add(0, 9);
        due("sample", x.sample(0, false), 30);
        due("read", read(x, text), 0);
        due("sample", x.sample(0, false), 3);
        // more samples than ahead: nothing of those that were there long ago
        due("read", read(x, "samples 512;"), 0);
        due("power", x.power(0, 511), 0);
    }

    // ---- promises

    private static void aNewObject() {
        sentence("1", "As if an empty text had been read.");
        SpreadRows x = new SpreadRows();
        SpreadRows y = told("");
        due("state", state(x), state(y));
        rowDue("counts", "0 0 0 0 0 256 0 0 0 -1", x::count);
        due("place()", x.place(), SpreadRows.NONE);
        due("power", x.power(0, 255), 0);
        due("no sample 256", x.sample(256, false), -1000000);
        for (int slot = 0; slot < 3; slot++) due("restore " + slot, x.restore(slot), false);
        due("NONE", SpreadRows.NONE, -1);
    }

    private static void feedTwenty() {
        sentence("2", "Twenty bytes, the highest of a first, come behind the tape: how many it has.");
        // bits a 13 4096;jam 0 and blanks
        SpreadRows x = new SpreadRows();
        due("feed", x.feed(0x62697473, 0x20612031, 0x33203430, 0x39363b6a, 0x616d2030), 20);
        due("feed", x.feed(0x20302031, 0x20313b20, 0x20202020, 0x20202020, 0x20202020), 40);
        due("count(6)", x.count(6), 40);
        due("read()", x.read(), 0);
        due("chip(0, 12)", x.chip(0, 12), -1);
        due("sample(0, false)", x.sample(0, false), 1);
        // every byte in its place: one that is no TOKEN
        for (int place = 0; place < 20; place++) {
            int[] f = five("", 0);
            f[place / 4] ^= (0x20 ^ 0xff) << 24 - 8 * (place % 4);
            SpreadRows y = new SpreadRows();
            due("feed", y.feed(f[0], f[1], f[2], f[3], f[4]), 20);
            due("read()", y.read(), 1);
            due("place()", y.place(), place);
        }
        SpreadRows z = new SpreadRows();
        for (int n = 20; n <= 2000; n += 20) due("feed", z.feed(MIN, -1, MAX, 0, 1), n);
    }

    private static void feedTooMany() {
        sentence("2", "NONE, and nothing comes, if it would have more than 2,000.");
        SpreadRows x = new SpreadRows();
        write(x, blank(1980));
        due("up to 2000", x.feed(0x20202020, 0x20202020, 0x20202020, 0x20202020, 0x20202020), 2000);
        due("beyond", x.feed(0x2e2e2e2e, 0, 0, 0, 0), -1);
        due("count(6)", x.count(6), 2000);
        for (int gone = 1; gone < 20; gone++) {
            due("back(1)", x.back(1), 2000 - gone);
            due("beyond", x.feed(0x2e2e2e2e, 0x2e2e2e2e, 0x2e2e2e2e, 0x2e2e2e2e, 0x2e2e2e2e), -1);
            due("count(6)", x.count(6), 2000 - gone);
        }
        due("back(1)", x.back(1), 1980);
        due("up to 2000 again", x.feed(0x20202020, 0x20202020, 0x20202020, 0x20202020, 0x20202020), 2000);
        due("read()", x.read(), 0);
        // behind it there is room again
        due("feed", x.feed(0x20202020, 0x20202020, 0x20202020, 0x20202020, 0x20202020), 20);
    }

    private static void backTheLast() {
        sentence("3", "The last n bytes of the tape go: how many it has.");
        SpreadRows x = new SpreadRows();
        due("back(0) of nothing", x.back(0), 0);
        write(x, "samples 16;samples 20;tail");
        due("back(0)", x.back(0), 26);
        due("back(4)", x.back(4), 22);
        due("back(11)", x.back(11), 11);
        due("read()", x.read(), 0);
        due("count(5)", x.count(5), 16);
        write(x, "tail");
        due("all of it", x.back(4), 0);
        due("read()", x.read(), 0);
        due("count(5)", x.count(5), 256);
        write(x, blank(2000));
        due("all of 2000", x.back(2000), 0);
    }

    private static void backTooMany() {
        sentence("3", "NONE, and nothing goes, if it has not so many, or n is below 0.");
        SpreadRows x = new SpreadRows();
        refused("back of an empty tape", -1, x::back, 1, -1, MIN, MAX);
        write(x, "samples 16;");
        refused("back", -1, x::back, 12, -1, -11, MIN, MAX);
        due("count(6)", x.count(6), 11);
        due("read()", x.read(), 0);
        due("count(5)", x.count(5), 16);
        // what went with the reading can't go again
        refused("back behind read()", -1, x::back, 1, 11);
    }

    private static void readEmpties() {
        sentence("4", "The tape, which is empty then, is read: 0, or the number of its FAULT.");
        SpreadRows x = new SpreadRows();
        String[] texts = {"samples 16;", "oh", "jam 0 0 1 1;".repeat(5), "hop a 3 1 1; hop a 3 1 1;", "echo s 1 1;", "samples 1;"};
        for (int number = 0; number < texts.length; number++) {
            write(x, texts[number]);
            due("count(6)", x.count(6), texts[number].length());
            due("read()", x.read(), number);
            due("count(6)", x.count(6), 0);
            due("back(1)", x.back(1), -1);
        }
        due("read() of an empty tape", x.read(), 0);
        due("count(5)", x.count(5), 256);
    }

    private static void placeOfTheLatest() {
        sentence("5", "The byte of the latest read()'s FAULT; NONE without.");
        SpreadRows x = new SpreadRows();
        due("place() of a new object", x.place(), -1);
        int[] places = {2, 48, 17, 5, 8};
        String[] texts = {"  oh", "jam 0 0 1 1;".repeat(5), "hop a 3 1 1; hop a 3 1 1;", "echo s 1 1;", "samples 1;"};
        for (int i = 0; i < texts.length; i++) {
            due("read()", read(x, texts[i]), i + 1);
            due("place()", x.place(), places[i]);
            // till the next read(), whatever else is called
            write(x, "samples 16;");
            x.back(1);
            x.anew();
            due("place()", x.place(), places[i]);
            x.back(10);
        }
        due("read()", x.read(), 0);
        due("place()", x.place(), -1);
        due("read()", read(x, "!"), 1);
        due("place() at 0", x.place(), 0);
    }
}
