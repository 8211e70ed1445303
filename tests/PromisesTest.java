/** Promise by promise: ordinary inputs, the edges that the document names, wrong inputs. */
public final class PromisesTest extends Kit {
    /** One code "-+++", one sender without a turn: 32 samples. */
    private static final String PLAIN = "bits a 4 1; samples 32; send s a 3 1 0 2;";
    /** A tone, a drift at each period, an echo and a jam. */
    private static final String FULL = "bits a 4 1; samples 24; send s a 2 0 1 0 drift 1; echo s 2 - 1; jam 3 9 5 3;";
    /** A strong sender over a weak one that is not unlike it. */
    private static final String TWO = "bits a 4 8; bits b 4 0; samples 16; send s a 9 0 0 0; send w b 2 0 0 1;";
    /** Three that hurt one another, with ECHOES and NOISE. */
    private static final String THREE = "bits a 4 8; bits b 4 0; bits c 4 9; samples 60; send s a 5 0 0 2571; send t b 5 1 0 1234;"
        + "send u c 4 2 1 9001; echo s 3 - 3; echo t 2 4; noise 3 2;";
    private static final String CODES = "bits a 4 1; bits b 4 3; walsh h 2 1; reg m 3 3 1; both c a b 1; bits one 1 0; reg y 2 2 1; bits n 4 14;";
    private static final String HOPS = "hop f 5 1 2; hop g 5 2 0; hop k 7 1 0; hop w 31 0 1; hop z 2 0 0;";

    public static void main(String[] args) {
        promise1();
        promise2();
        promise3();
        promise4();
        promise4Room();
        promise4Meaning();
        promise4Nothing();
        promise5();
        promise6();
        promise7();
        promise8();
        promise9();
        promise10();
        promise11();
        promise12();
        promise13();
        promise14();
        promise15();
        promise16();
        promise17();
        promise18();
        promise19();
        promise20();
        promise21();
        promise22();
        promise23();
        promise24();
        promise25();
        promise26();
        promise27();
        promise28();
        promise29();
        promise30();
        promise31();
        promise32();
        promise33();
        promise34();
        promise35();
        promise36();
        promise37();
        promise38();
        promise39();
        promise40();
        promise41();
        promise42();
        promise43();
        promise44();
        promise45();
        promise46();
        promise47();
        promise48();
        end();
    }

    private static String signs(SpreadRows x, int code) {
        StringBuilder all = new StringBuilder();
        for (int i = 0; i < x.code(code, 0); i++) all.append(x.chip(code, i) == 1 ? '+' : x.chip(code, i) == -1 ? '-' : '?');
        return all.toString();
    }

    private static String times(String part, int n) {
        return part.repeat(n);
    }

    // ---- the text

    private static void promise1() {
        SpreadRows x = new SpreadRows();
        rowDue("count", "0 0 0 0 0 256 0 0 0 -1 -1", x::count);
        due("place()", x.place(), SpreadRows.NONE);
        due("NONE", SpreadRows.NONE, -1);
        rowDue("sample", "0 0 0 0 0", i -> x.sample(51 * i, i % 2 == 0));
        due("sample(256, true)", x.sample(256, true), -1000000);
        due("restore(2)", x.restore(2), false);
        due("family(9, 1)", x.family(9, 1), 0);
        due("hop(0, 0)", x.hop(0, 0), -1);
        due("crowded(0, 0, 999)", x.crowded(0, 0, 999), 0);
    }

    private static void promise2() {
        SpreadRows x = new SpreadRows();
        // samples 16;noise 5 9; and two blanks
        due("feed", x.feed(0x73616d70, 0x6c657320, 0x31363b6e, 0x6f697365, 0x20352039), 20);
        due("feed", x.feed(0x3b202020, 0x20202020, 0x20202020, 0x20202020, 0x20202020), 40);
        due("read()", x.read(), 0);
        due("count(5)", x.count(5), 16);
        due("count(8)", x.count(8), 5);
        for (int i = 1; i <= 100; i++) due("feed " + i, x.feed(0x20202020, 0x20202020, 0x20202020, 0x20202020, 0x20202020), 20 * i);
        due("feed beyond", x.feed(0x21202020, 0, 0, 0, 0), -1);
        due("count(6)", x.count(6), 2000);
        due("back(1)", x.back(1), 1999);
        due("feed beyond", x.feed(0x21202020, 0, 0, 0, 0), -1);
        due("read()", x.read(), 0);
        SpreadRows high = new SpreadRows();
        due("feed of high bytes", high.feed(0x202020e1, 0xffffffff, 0, MIN, -1), 20);
        due("read of high bytes", high.read(), 1);
        due("place of high bytes", high.place(), 3);
    }

    private static void promise3() {
        SpreadRows x = new SpreadRows();
        due("back(0)", x.back(0), 0);
        due("back(1)", x.back(1), -1);
        write(x, "samples 16;x");
        due("back(-1)", x.back(-1), -1);
        due("back(MIN)", x.back(MIN), -1);
        due("back(13)", x.back(13), -1);
        due("back(MAX)", x.back(MAX), -1);
        due("count(6)", x.count(6), 12);
        due("back(0)", x.back(0), 12);
        due("back(1)", x.back(1), 11);
        due("read()", x.read(), 0);
        due("back(1)", x.back(1), -1);
        write(x, "samples 16;x");
        due("back(12)", x.back(12), 0);
        write(x, "samples 17;");
        due("read()", x.read(), 0);
        due("count(5)", x.count(5), 17);
    }

    private static void promise4() {
        fine("");
        fine(" \n\t\r ");
        fine("reg abcdefgh 3 1 1;");
        fine("reg a 3 0001\n1\t;");
        fine("reg a3 1 1;walsh b1 1;hop f5 1 1;send s a 1 0 0 0drift 9;echo s1-1;jam 0 0 1 1;noise 0 0;samples 16;");
        fine("bits regs 1 0;send drifts regs 1 0 0 0;echo drifts 1 1;");
        fault(1, "^x");
        fault(1, "^;");
        fault(1, "^12");
        fault(1, "^-");
        fault(1, "^drift 1;");
        fault(1, "^rega 3 1 1;");
        fault(1, "^REG a 3 1 1;");
        fault(1, "reg^");
        fault(1, "reg a ^");
        fault(1, "reg a 3 1 1^");
        fault(1, "reg ^3 1 1;");
        fault(1, "reg ^reg 3 1 1;");
        fault(1, "reg ^drift 3 1 1;");
        fault(1, "reg ^abcdefghi 3 1 1;");
        fault(1, "reg a ^12345 1 1;");
        fault(1, "reg a ^00003 1 1;");
        fault(1, "reg a ^-3 1 1;");
        fault(1, "reg a 3 1 1 ^1;");
        fault(1, "reg a 3 1 ^;");
        fault(1, "reg a 3 1 1 ;^;");
        fault(1, "reg a 3 1 1;^.");
        fault(1, "reg a 3 1 1;^\u000b");
        fault(1, "reg a 3 1 1;^\u0000");
        fault(1, "reg a 3 1 1;^\u00e9");
        fault(1, "reg a^_b 3 1 1;");
        fault(1, "reg a 3 1 1 ^drift 2;");
        fault(1, "walsh a 2 ^a;");
        fault(1, "bits a 2 1 ^1;");
        fault(1, "both a b c^;");
        fault(1, "both a b ^1 c;");
        fault(1, "hop a 5 1 1 ^1;");
        fault(1, "send a b 1 1 1 ^;");
        fault(1, "send a b 1 1 1 1 ^1;");
        fault(1, "send a b 1 1 1 1 ^10 5;");
        fault(1, "send a b 1 1 1 1 drift ^;");
        fault(1, "send a b 1 1 1 1 drift ^drift 1;");
        fault(1, "send a b 1 1 1 1 drift 1 ^drift 1;");
        fault(1, "echo a ^- 1 1;");
        fault(1, "echo a 1 - ^- 1;");
        fault(1, "echo a 1 - ^;");
        fault(1, "echo a 1 1 ^- 1;");
        fault(1, "jam 1 1 ^- 1 1;");
        fault(1, "noise 1 ^;");
        fault(1, "samples 20 ^20;");
        // SYNTAX goes ahead of what the names and numbers are
        fault(1, "reg a 9 1 1; reg a 3 1 1; send s q 0 0 0 0; reg^");
    }

    private static void promise4Room() {
        String eight = "";
        for (int i = 0; i < 8; i++) eight += (i % 2 == 0 ? "bits " : "walsh ") + (char) ('a' + i) + " 2 1;";
        fine(eight);
        fault(2, eight + "^reg i 3 1 1;");
        fault(2, eight + "^walsh i 3 1;");
        fault(2, eight + "^bits i 3 1;");
        fault(2, eight + "^both i a b 1");
        fault(2, eight + "^both ;;");
        fault(1, "reg a 3 1 ^;" + eight + "bits i 2 1;");
        String hops = "", sends = "bits x 2 1;", echoes, jams = times("jam 0 0 1 1;", 4);
        for (int i = 0; i < 6; i++) {
            hops += "hop " + (char) ('a' + i) + " 5 1 1;";
            sends += "send " + (char) ('a' + i) + " x 1 0 0 0;";
        }
        echoes = sends + times("echo a 1 1;", 6);
        fine(eight + hops.replace("hop ", "hop h") + jams);
        fine(echoes);
        fault(2, hops + "^hop q 5 1 1;");
        fault(2, sends + "^send q x 1 0 0 0;");
        fault(2, echoes + "^echo a 1 1;");
        fault(2, jams + "^jam 0 0 1 1;");
        fault(2, jams + "^jam");
        // TOKENS: 400 go, and of one place SYNTAX is the least
        String hundred = times("noise 1 1;", 100);
        fine(hundred);
        fine(hundred + " \n");
        fault(2, hundred + " ^noise 1 1;");
        fault(2, hundred + "^samples");
        fault(1, hundred + "^drift");
        fault(1, hundred + "^x");
        fault(1, hundred + "^#");
        String nearly = times("samples 16;", 133);
        fault(2, nearly + "noise ^1 1;");
        fault(1, nearly + "noise ^;");
        fault(1, nearly + "noise^");
        fault(1, nearly + "noise ^q");
    }

    private static void promise4Meaning() {
        String all = "bits a 4 1; hop h 5 1 1; send s a 1 0 0 0; walsh w 3 1;";
        fine(all);
        fine("bits a 1 0; bits aa 1 0; bits aaa 1 0; bits ab 1 0; bits ba 1 0; bits z 1 0; bits az 1 0; bits za 1 0;");
        fault(3, "reg a 3 1 1; walsh ^a 2 1;");
        fault(3, "bits a 4 1; hop ^a 5 1 1;");
        fault(3, "bits a 4 1; send ^a a 1 0 0 0;");
        fault(3, all + "reg ^h 9 1 1;");
        fault(3, all + "bits ^s 4 1;");
        fault(3, all + "both ^s a a 1;");
        fault(3, "bits a 4 1; bits ^a 99 1; walsh b 9 9;");
        fault(4, "send s ^a 1 0 0 0; bits a 4 1;");
        fault(4, "send s ^s 1 0 0 0;");
        fault(4, all + "send t ^h 1 0 0 0;");
        fault(4, all + "send t ^s 1 0 0 0;");
        fault(4, "both a ^a a 0;");
        fault(4, "bits b 4 1; both a b ^a 0;");
        fault(4, all + "both c a ^h 0;");
        fault(4, "echo ^s 1 1;");
        fault(4, all + "echo ^a 1 1;");
        fault(4, all + "echo ^h 1 1;");
        // the first by its place, whatever its number
        fault(5, "reg a ^1 1 1; reg a 3 1 1; send s q 1 0 0 0;");
        fault(5, "reg a ^1 9999 9999;");
        fault(5, "reg a ^8 1 1;");
        fault(5, "reg a 3 ^0 1;");
        fault(5, "reg a 3 ^8 1;");
        fault(5, "reg a 3 7 ^0;");
        fault(5, "reg a 3 7 ^8;");
        fine("reg a 2 3 3; reg b 7 127 127;");
        fault(5, "reg a 7 127 ^128;");
        fault(5, "walsh a ^0 0;");
        fault(5, "walsh a ^7 0;");
        fault(5, "walsh a 6 ^64;");
        fault(5, "walsh a 1 ^2;");
        fine("walsh a 6 63; walsh b 1 1;");
        fault(5, "bits a ^0 0;");
        fault(5, "bits a ^14 0;");
        fault(5, "bits a 13 ^8192;");
        fault(5, "bits a 1 ^2;");
        fine("bits a 13 8191; bits b 1 1;");
        fault(5, "bits a 4 1; walsh b 3 1; both c a ^b 9;");
        fault(5, "bits a 4 1; walsh b 2 1; both c a b ^4;");
        fine("bits a 4 1; walsh b 2 1; both c a b 3;");
        for (int p = 0; p <= 33; p++) {
            boolean prime = "2 3 5 7 11 13 17 19 23 29 31".matches("(.* )?" + p + "( .*)?");
            if (prime) {
                fine("hop h " + p + " " + (p - 1) + " " + (p - 1) + ";");
                fault(5, "hop h " + p + " ^" + p + " 0;");
                fault(5, "hop h " + p + " 0 ^" + p + ";");
            } else {
                fault(5, "hop h ^" + p + " 99 0;");
            }
        }
        fault(5, "bits a 4 1; send s a ^0 0 0 0;");
        fault(5, "bits a 4 1; send s a ^100 0 0 0;");
        fault(5, "bits a 4 1; send s a 99 ^4 0 0;");
        fault(5, "bits a 4 1; send s a 99 3 ^4 0;");
        fault(5, "bits a 4 1; send s a 99 3 3 9999 drift ^0;");
        fault(5, "bits a 4 1; send s a 99 3 3 9999 drift ^100;");
        fine("bits a 4 1; send s a 99 3 3 9999 drift 99; echo s 99 - 99; echo s 1 99;");
        fault(5, all + "echo s ^0 1;");
        fault(5, all + "echo s ^100 1;");
        fault(5, all + "echo s 1 ^0;");
        fault(5, all + "echo s 1 - ^0;");
        fault(5, all + "echo s 1 ^100;");
        fault(5, all + "echo s 1 - ^100;");
        fine("jam 0 511 99 99; jam 511 511 1 1;");
        fault(5, "jam ^512 511 1 1;");
        fault(5, "jam 0 ^512 1 1;");
        fault(5, "jam 9 ^8 1 1;");
        fault(5, "jam 9 9 ^0 1;");
        fault(5, "jam 9 9 ^100 1;");
        fault(5, "jam 9 9 1 ^0;");
        fault(5, "jam 9 9 1 ^100;");
        fine("noise 50 9999; samples 512; samples 16;");
        fault(5, "noise ^51 0;");
        fault(5, "samples ^15;");
        fault(5, "samples ^513; samples 20;");
    }

    /** A text with a FAULT changes nothing but the tape; one without is in place of the one ahead. */
    private static void promise4Nothing() {
        SpreadRows x = told(PLAIN + "noise 2 2; hop h 5 1 1; jam 0 0 1 1;");
        x.add(0, 2);
        x.hold(1);
        String ahead = row(9, x::count);
        long power = x.power(0, 31);
        due("read", read(x, "bits q 5 1; bits r 5 2; samples 16; noise 9 9; send t r 1 0 0 0; samples 1;"), 5);
        due("read", read(x, "bits q 5 1; samples 16; ."), 1);
        due("counts behind a fault", row(9, x::count), ahead);
        due("power behind a fault", x.power(0, 31), power);
        due("restore behind a fault", x.restore(1), true);
        due("code behind a fault", x.code(0, 0), 4);
        due("wave behind a fault", x.wave(0, 1, false), -3);
        due("read", read(x, "samples 16; bits q 5 1; bits r 5 2; samples 20; noise 9 9; noise 0 7;"), 0);
        rowDue("counts behind a text", "2 0 0 0 0 20 0 0 0", x::count);
        due("power behind a text", x.power(0, 19), 0);
        due("restore behind a text", x.restore(1), false);
        due("read", read(x, ""), 0);
        rowDue("counts behind an empty text", "0 0 0 0 0 256 0 0 0", x::count);
    }

    private static void promise5() {
        SpreadRows x = new SpreadRows();
        due("place()", x.place(), -1);
        due("read()", read(x, "reg a 3 1"), 1);
        due("place()", x.place(), 9);
        x.feed(0x20202020, 0, 0, 0, 0);
        x.back(1);
        x.anew();
        due("place() stays", x.place(), 9);
        due("read()", x.read(), 1);
        due("place()", x.place(), 4);
        due("read()", read(x, "!"), 1);
        due("place()", x.place(), 0);
        due("read()", x.read(), 0);
        due("place()", x.place(), -1);
    }

    // ---- codes

    private static void promise6() {
        SpreadRows x = told(CODES);
        rowDue("lengths", "4 4 4 7 4 1 3 4 -1", c -> x.code(c, 0));
        rowDue("minuses", "1 2 2 4 1 0 1 3 -1", c -> x.code(c, 1));
        rowDue("own shifts", "4 4 2 7 4 1 3 4 -1", c -> x.code(c, 2));
        rowDue("changes", "2 2 4 4 2 0 2 2 -1", c -> x.code(c, 3));
        due("code(0, 4)", x.code(0, 4), -1);
        due("code(0, -1)", x.code(0, -1), -1);
        due("code(-1, 0)", x.code(-1, 0), -1);
        due("code(MIN, MIN)", x.code(MIN, MIN), -1);
        due("code(MAX, MAX)", x.code(MAX, MAX), -1);
        SpreadRows y = told("bits a 6 9; bits b 6 21; bits c 6 63; reg r 7 3 1; walsh w 6 63;");
        rowDue("lengths", "6 6 6 127 64", c -> y.code(c, 0));
        rowDue("minuses", "2 3 6 64 32", c -> y.code(c, 1));
        rowDue("own shifts", "3 2 1 127 64", c -> y.code(c, 2));
        rowDue("changes", "4 6 0 64 42", c -> y.code(c, 3));
    }

    private static void promise7() {
        SpreadRows x = told(CODES);
        String[] rows = {"-+++", "--++", "+-+-", "-++-+--", "+++-", "+", "-++", "+---", ""};
        for (int c = 0; c < rows.length; c++) due("chips of " + c, signs(x, c), rows[c]);
        due("chip(0, 5)", x.chip(0, 5), 0);
        due("chip(0, 100)", x.chip(0, 100), 0);
        due("chip(0, -1)", x.chip(0, -1), 0);
        due("chip(0, 4)", x.chip(0, 4), 0);
        due("chip(-1, 0)", x.chip(-1, 0), 0);
        due("chip(8, 0)", x.chip(8, 0), 0);
        due("chip(0, MAX)", x.chip(0, MAX), 0);
        due("chip(MIN, MIN)", x.chip(MIN, MIN), 0);
        SpreadRows y = told("walsh a 1 0; walsh b 2 2; walsh c 2 3; walsh d 3 5; reg e 2 1 1; reg f 4 3 8; bits g 13 4097; both h f f 5;");
        String[] more = {"++", "++--", "+--+", "+-+--+-+", "-+-", "+++-++--+-+----", "-+++++++++++-", null};
        for (int c = 0; c < 7; c++) due("chips of " + c, signs(y, c), more[c]);
        // a row times itself shifted
        due("chips of 7", signs(y, 7), "+----+++-++--+-");
    }

    private static void promise8() {
        SpreadRows x = told(CODES);
        rowDue("alike 0 1", "2 2 -2 -2 -1000", s -> x.alike(0, 1, s));
        rowDue("alike 1 0", "2 -2 -2 2 -1000", s -> x.alike(1, 0, s));
        rowDue("alike 3 3", "7 -1 -1 -1 -1 -1 -1 -1000", s -> x.alike(3, 3, s));
        rowDue("alike 0 7", "-4 0 0 0", s -> x.alike(0, 7, s));
        due("alike(0, 3, 0)", x.alike(0, 3, 0), -1000);
        due("alike(0, 0, -1)", x.alike(0, 0, -1), -1000);
        due("alike(-1, 0, 0)", x.alike(-1, 0, 0), -1000);
        due("alike(0, 8, 0)", x.alike(0, 8, 0), -1000);
        due("alike(5, 5, 0)", x.alike(5, 5, 0), 1);
        due("alike(MAX, MIN, MAX)", x.alike(MAX, MIN, MAX), -1000);
    }

    private static void promise9() {
        SpreadRows x = told(CODES);
        rowDue("worst of each with itself", "0 4 4 1 0 0 1 0 -1", c -> x.worst(c, c));
        rowDue("worst of 0 with each", "0 2 2 -1 4 -1 -1 4 -1", c -> x.worst(0, c));
        due("worst(7, 0)", x.worst(7, 0), 4);
        due("worst(-1, 0)", x.worst(-1, 0), -1);
        due("worst(0, MIN)", x.worst(0, MIN), -1);
        // another one with the same chips is not itself
        SpreadRows y = told("bits a 5 7; bits b 5 7; bits c 1 0; bits d 1 1; bits e 2 1;");
        due("worst(4, 4)", y.worst(4, 4), 2);
        due("worst(0, 0)", y.worst(0, 0), 3);
        due("worst(0, 1)", y.worst(0, 1), 5);
        due("worst(2, 2)", y.worst(2, 2), 0);
        due("worst(2, 3)", y.worst(2, 3), 1);
    }

    private static void promise10() {
        SpreadRows x = told(CODES);
        due("times(0, 1, 2)", x.times(0, 1, 2), 2);
        due("times(0, 1, -2)", x.times(0, 1, -2), 2);
        due("times(0, 1, 0)", x.times(0, 1, 0), 0);
        due("times(3, 3, -1)", x.times(3, 3, -1), 6);
        // shift 0 counts here, with itself too
        due("times(3, 3, 7)", x.times(3, 3, 7), 1);
        due("times(2, 2, 4)", x.times(2, 2, 4), 2);
        due("times(2, 2, -4)", x.times(2, 2, -4), 2);
        due("times(0, 3, 1)", x.times(0, 3, 1), -1);
        due("times(0, 8, 1)", x.times(0, 8, 1), -1);
        due("times(-1, 0, 1)", x.times(-1, 0, 1), -1);
        due("times(0, 0, MIN)", x.times(0, 0, MIN), 0);
    }

    private static void promise11() {
        SpreadRows x = told(CODES);
        rowDue("depths", "4 3 2 3 4 0 3 4 -1", x::depth);
        due("depth(-1)", x.depth(-1), -1);
        due("depth(MAX)", x.depth(MAX), -1);
        SpreadRows y = told("bits a 5 31; bits b 5 0; bits c 13 1; bits d 6 9; reg e 7 3 1; reg f 7 9 1; both g e f 0; walsh h 6 63;");
        rowDue("depths", "1 0 13 3 7 7 14 33", y::depth);
        SpreadRows z = told("reg a 7 1 1; reg b 7 1 2;");
        rowDue("depths", "127 126", z::depth);
    }

    private static void promise12() {
        SpreadRows x = told("bits a 4 1; bits b 4 3; walsh h 2 1; reg m 3 3 1; both c a b 1;");
        rowDue("how many", "1 1 1 1 4 4", t -> x.family(t, 0));
        rowDue("which", "1 1 1 1 23 23", t -> x.family(t, 1));
        due("family(MAX, 1)", x.family(MAX, 1), 23);
        due("family(-1, 0)", x.family(-1, 0), -1);
        due("family(MIN, 1)", x.family(MIN, 1), -1);
        due("family(0, 2)", x.family(0, 2), -1);
        due("family(0, -1)", x.family(0, -1), -1);
        // none is little enough alike with itself
        SpreadRows y = told("bits a 5 31; bits b 5 0;");
        due("family(4, 0)", y.family(4, 0), 0);
        due("family(4, 1)", y.family(4, 1), 0);
        due("family(5, 1)", y.family(5, 1), 3);
        // of as many ones the least bits; only with those of one LENGTH
        SpreadRows z = told("bits a 5 31; reg b 5 5 1; reg c 5 29 1; reg d 5 30 1; reg e 5 18 1; bits f 5 0; bits g 1 0; reg h 5 5 2;");
        int[][] due = {{0, 64}, {1, 2}, {4, 2}, {5, 33}, {8, 33}, {9, 6}, {26, 6}, {27, 14}, {30, 14}, {31, 158}};
        for (int[] one : due) {
            due("family(" + one[0] + ", 1)", z.family(one[0], 1), one[1]);
            due("family(" + one[0] + ", 0)", z.family(one[0], 0), Integer.bitCount(one[1]));
        }
    }

    // ---- what comes in

    private static void promise13() {
        SpreadRows x = told(PLAIN);
        rowDue("re", "0 -3 3 3 3 3 -3 -3 -3 -3 3 3 3 -3 3 3 3 -3 3 3 3 -3 3 3 3 -3 3 3 3 -3 3 3 -1000000", i -> x.sample(i, false));
        rowDue("im", "0 0 0 0 0 0 0 0 0 0 0 0 0 0 0 0 0 0 0 0 0 0 0 0 0 0 0 0 0 0 0 0 -1000000", i -> x.sample(i, true));
        due("sample(-1, false)", x.sample(-1, false), -1000000);
        due("sample(MAX, true)", x.sample(MAX, true), -1000000);
        due("sample(MIN, true)", x.sample(MIN, true), -1000000);
        SpreadRows y = told(FULL);
        rowDue("re", "-2 2 3 6 1 -3 6 3 -1 4 0 0 0 0 0 0 2 -2 -3 -1 -1 3 -1 -3 -1000000", i -> y.sample(i, false));
        rowDue("im", "0 0 0 0 0 0 0 0 2 2 -3 1 3 1 1 -3 -1 1 0 0 0 0 0 0 -1000000", i -> y.sample(i, true));
        // TONE 3 goes the other way round, TONE 2 to and fro
        SpreadRows t = told("bits a 1 0; samples 40; send s a 5 0 3 0;");
        rowDue("re", "5 0 -5 0 5", i -> t.sample(8 * i, false));
        rowDue("im", "0 -5 0 5 0", i -> t.sample(8 * i, true));
        rowDue("im", "0 -5 0 5 0", i -> t.sample(8 * i + (i < 4 ? 7 : 0), true));
        SpreadRows six = told("bits a 1 0; samples 16; send s a 1 0 0 0; echo s 1 2; echo s 2 4; echo s 3 8; echo s 4 - 16; echo s 5 32; echo s 6 64;");
        rowDue("six echoes", "1 3 7 15 -1 31 95 95", i -> six.sample(i, false));
        // DATA comes again with PERIOD 14
        SpreadRows d = told("bits a 1 0; samples 40; send s a 1 0 2 8193;");
        rowDue("re", "-1 1 1 1 1 1 1 1 -1 -1 -1 -1 -1 1 1 -1 1 1 1 1 1 1 1 1 -1 -1 -1 1 1 -1", i -> d.sample(i, false));
    }

    private static void promise14() {
        SpreadRows x = told(FULL);
        due("power(0, 23)", x.power(0, 23), 203);
        due("power(0, 0)", x.power(0, 0), 4);
        due("power(8, 9)", x.power(8, 9), 1 + 4 + 16 + 4);
        due("power(9, 8)", x.power(9, 8), -1);
        due("power(-1, 8)", x.power(-1, 8), -1);
        due("power(0, 24)", x.power(0, 24), -1);
        due("power(24, 24)", x.power(24, 24), -1);
        due("power(MIN, MAX)", x.power(MIN, MAX), -1);
        // more than an int holds
        SpreadRows y = told("bits a 1 0; samples 512; send s a 99 0 0 0;");
        for (int i = 0; i < 11; i++) y.add(0, 9);
        due("power(0, 511)", y.power(0, 511), 512L * 9900 * 9900);
    }

    private static void promise15() {
        SpreadRows x = told(FULL + "send t a 7 3 2 8191;");
        rowDue("wave re", "-2 2 2 2 2 -2 2 2 0 0 0 0 0 0 0 0 2 -2 -2 -2 -2 2 -2 -2 -1000000", i -> x.wave(0, i, false));
        rowDue("wave im", "0 0 0 0 0 0 0 0 2 2 -2 2 2 2 2 -2 0 0 0 0 0 0 0 0 -1000000", i -> x.wave(0, i, true));
        rowDue("wave 1", "0 0 0 7 -7 -7 -7 7 7 7 7 -7", i -> x.wave(1, i, false));
        due("wave(2, 0, false)", x.wave(2, 0, false), -1000000);
        due("wave(-1, 0, false)", x.wave(-1, 0, false), -1000000);
        due("wave(0, -1, false)", x.wave(0, -1, false), -1000000);
        due("wave(MIN, MAX, true)", x.wave(MIN, MAX, true), -1000000);
        // what is added is no part of a WAVE
        x.add(0, 5);
        due("wave(0, 0, false)", x.wave(0, 0, false), -2);
    }

    private static void promise16() {
        SpreadRows x = told(FULL);
        due("add(0, 9)", x.add(0, 9), true);
        rowDue("re", "-20 20 30 15", i -> x.sample(i, false));
        due("add(0, -9)", x.add(0, -9), true);
        due("add(0, -1)", x.add(0, -1), true);
        rowDue("only the jam", "0 0 0 5 0 0 5 0 0 5 0", i -> x.sample(i, false));
        due("power(0, 23)", x.power(0, 23), 75);
        due("add(0, 0)", x.add(0, 0), true);
        due("add(0, 10)", x.add(0, 10), false);
        due("add(0, -10)", x.add(0, -10), false);
        due("add(1, 1)", x.add(1, 1), false);
        due("add(-1, 1)", x.add(-1, 1), false);
        due("add(0, MIN)", x.add(0, MIN), false);
        due("power(0, 23)", x.power(0, 23), 75);
    }

    private static void promise17() {
        SpreadRows x = new SpreadRows();
        due("noise(50, 9)", x.noise(50, 9), true);
        rowDue("re", "-41 -49 1 6 -40 28 2 2", i -> x.sample(i, false));
        rowDue("im", "47 50 -20 -8 -6 -46 -34 5", i -> x.sample(i, true));
        due("noise(7, -5)", x.noise(7, -5), true);
        rowDue("re", "-34 -47 -1 4 -41 32 8 1", i -> x.sample(i, false));
        rowDue("im", "54 45 -15 -10 -11 -50 -32 7", i -> x.sample(i, true));
        long power = x.power(0, 255);
        due("noise(0, 5)", x.noise(0, 5), true);
        due("noise(51, 5)", x.noise(51, 5), false);
        due("noise(-1, 5)", x.noise(-1, 5), false);
        due("noise(MIN, MAX)", x.noise(MIN, MAX), false);
        due("power", x.power(0, 255), power);
        due("count(8)", x.count(8), 0);
        // told, the last one only
        SpreadRows y = told("noise 50 9; noise 3 0;");
        rowDue("re", "-2 -1 -2 -1 -3 -1 -3 2", i -> y.sample(i, false));
        rowDue("im", "1 2 1 -2 0 -3 0 -3", i -> y.sample(i, true));
    }

    private static void promise18() {
        SpreadRows x = told(FULL + "noise 9 9;");
        long power = x.power(0, 23);
        int first = x.sample(0, true);
        x.add(0, 4);
        x.noise(50, 4);
        x.hold(0);
        due("changed", x.power(0, 23) == power, false);
        due("anew()", x.anew(), true);
        due("power", x.power(0, 23), power);
        due("sample(0, true)", x.sample(0, true), first);
        due("count(7)", x.count(7), 1);
        due("restore(0)", x.restore(0), true);
        due("changed", x.power(0, 23) == power, false);
    }

    // ---- the search

    private static void promise19() {
        SpreadRows x = told("bits a 4 1; samples 32; send s a 3 0 1 0;");
        // re, im of each TONE, where the WAVE lies at re, im, re times -1, im times -1
        due("sums at 0", sums(x, 0, 0), "12 0 12 0 12 0 12 0");
        due("sums at 8", sums(x, 0, 8), "0 12 12 0 0 -12 -12 0");
        due("sums at 16", sums(x, 0, 16), "-12 0 12 0 -12 0 12 0");
        due("sums at 24", sums(x, 0, 24), "0 -12 12 0 0 12 -12 0");
        // half of it from the next eight, a delay, and beyond the last sample
        due("sums at 6", sums(x, 2, 6), "6 6 12 0 6 -6 0 0");
        due("sums at 1", sums(x, 3, 1), "12 0 12 0 12 0 12 0");
        due("sums at 1", sums(x, 1, 1), "0 0 0 0 0 0 0 0");
        due("sums at 31", sums(x, 1, 31), "0 -3 3 0 0 3 -3 0");
        due("sum(1, 0, 0, 0, false)", x.sum(1, 0, 0, 0, false), -1000000000);
        due("sum(-1, 0, 0, 0, false)", x.sum(-1, 0, 0, 0, false), -1000000000);
        due("sum(0, 4, 0, 0, false)", x.sum(0, 4, 0, 0, false), -1000000000);
        due("sum(0, -1, 0, 0, false)", x.sum(0, -1, 0, 0, false), -1000000000);
        due("sum(0, 0, 4, 0, true)", x.sum(0, 0, 4, 0, true), -1000000000);
        due("sum(0, 0, -1, 0, true)", x.sum(0, 0, -1, 0, true), -1000000000);
        due("sum(0, 0, 0, 32, true)", x.sum(0, 0, 0, 32, true), -1000000000);
        due("sum(0, 0, 0, -1, true)", x.sum(0, 0, 0, -1, true), -1000000000);
        due("sum of far ones", x.sum(MIN, MAX, MIN, MAX, true), -1000000000);
    }

    private static String sums(SpreadRows x, int d, int w) {
        return row(8, i -> x.sum(0, d, i / 2, w, i % 2 == 1));
    }

    private static void promise20() {
        SpreadRows x = told("bits a 4 1; samples 32; send s a 3 0 1 0;");
        rowDue("metrics", "144 144 144 144 0 0 0 0 0 0 0 0 0 0 0 0 -1", c -> (int) x.metric(0, c, 0, 1));
        rowDue("metrics", "72 144 72 0", t -> (int) x.metric(0, 8 + t, 6, 1));
        rowDue("more periods", "-1 144 288 432 576 720 864 1008 1152 1152 -1", m -> (int) x.metric(0, 0, 0, m));
        due("metric(0, 1, 28, 9)", x.metric(0, 1, 28, 9), 144);
        due("metric(0, -1, 0, 1)", x.metric(0, -1, 0, 1), -1);
        due("metric(1, 0, 0, 1)", x.metric(1, 0, 0, 1), -1);
        due("metric(0, 0, 32, 1)", x.metric(0, 0, 32, 1), -1);
        due("metric(0, 0, -1, 1)", x.metric(0, 0, -1, 1), -1);
        due("metric(-1, MIN, 0, MIN)", x.metric(-1, MIN, 0, MIN), -1);
        due("metric(MAX, MAX, MAX, MAX)", x.metric(MAX, MAX, MAX, MAX), -1);
        SpreadRows y = told("bits a 13 0; samples 512; send s a 99 0 0 0;");
        for (int i = 0; i < 11; i++) y.add(0, 9);
        due("more than an int holds", y.metric(0, 0, 0, 9), 9L * (9900 * 13) * (9900 * 13));
    }

    private static void promise21() {
        SpreadRows x = told("reg m 5 5 3; bits a 4 1; samples 200; send s m 7 9 2 5; jam 0 199 3 5;");
        due("best(0, 0, 1)", x.best(0, 0, 1), 4 * 9 + 2);
        due("best(0, 0, 9)", x.best(0, 0, 9), 4 * 9 + 2);
        due("best(0, 100, 3)", x.best(0, 100, 3), 4 * ((9 + 31 * 4 - 100) % 31) + 2);
        due("best(0, 199, 1)", x.best(0, 199, 1), 0);
        due("best(2, 0, 1)", x.best(2, 0, 1), -1);
        due("best(-1, 0, 1)", x.best(-1, 0, 1), -1);
        due("best(0, 200, 1)", x.best(0, 200, 1), -1);
        due("best(0, -1, 1)", x.best(0, -1, 1), -1);
        due("best(0, 0, 0)", x.best(0, 0, 0), -1);
        due("best(0, 0, 10)", x.best(0, 0, 10), -1);
        SpreadRows o = told("reg m 7 3 1; samples 512; send s m 7 126 1 0;");
        due("best, a long row", o.best(0, 1, 2), 4 * 125 + 1);
        due("best, the second cell", told("reg m 7 3 1; samples 512; send s m 7 0 1 0;").best(0, 0, 2), 1);
        due("best of nothing", told("bits a 4 1;").best(0, 0, 1), 0);
    }

    private static void promise22() {
        SpreadRows y = told("reg m 5 5 3; samples 200; send s m 7 0 0 0; send t m 5 2 0 0; send u m 4 28 0 0; send v m 2 3 1 0;");
        due("best(0, 31, 3)", y.best(0, 31, 3), 0);
        // delay 28 of 31 is 3 off 0 the other way round
        rowDue("second by gap", "8 8 112 65 65", gap -> y.second(0, 31, 3, gap));
        due("second, gap 60", y.second(0, 31, 3, 60), 65);
        due("second, gap 61", y.second(0, 31, 3, 61), -1);
        due("second, gap -1", y.second(0, 31, 3, -1), -1);
        due("second(1, ..)", y.second(1, 31, 3, 0), -1);
        due("second(0, 200, ..)", y.second(0, 200, 3, 0), -1);
        due("second(.., 10, 0)", y.second(0, 0, 10, 0), -1);
        due("second(.., MIN, MAX)", y.second(MIN, MAX, MIN, MAX), -1);
        SpreadRows first = told("reg m 7 3 1; samples 512; send s m 7 0 1 0; send t m 4 0 0 0;");
        due("second, the first cell", first.second(0, 0, 3, 0), 0);
        // of nothing: the least that is not the best one
        SpreadRows z = told("bits a 4 1; bits b 1 0;");
        due("second of nothing", z.second(0, 0, 1, 0), 1);
        due("second of one chip", z.second(1, 0, 1, 60), 1);
    }

    private static void promise23() {
        SpreadRows x = told("reg m 5 5 3; samples 200; send s m 7 0 0 0; send t m 5 2 0 0; send u m 4 28 0 0;");
        rowDue("peaks", "0 2 28", i -> x.peak(0, 0, 31, 3, i));
        // of alike ones the least delay first
        SpreadRows y = told("bits a 4 1; samples 24; send s a 3 2 0 0; send t a 1 0 0 0;");
        rowDue("peaks", "2 0 1 3 -1", i -> y.peak(0, 0, 4, 1, i));
        rowDue("peaks of another TONE", "2 0 1 3 -1", i -> y.peak(0, 2, 8, 1, i));
        rowDue("peaks of nothing", "0 1 2 3 -1", i -> told("bits a 4 1;").peak(0, 3, 0, 1, i));
        due("peak(0, 4, 0, 1, 0)", y.peak(0, 4, 0, 1, 0), -1);
        due("peak(0, -1, 0, 1, 0)", y.peak(0, -1, 0, 1, 0), -1);
        due("peak(0, 0, 24, 1, 0)", y.peak(0, 0, 24, 1, 0), -1);
        due("peak(0, 0, 0, 0, 0)", y.peak(0, 0, 0, 0, 0), -1);
        due("peak(0, 0, 0, 1, -1)", y.peak(0, 0, 0, 1, -1), -1);
        due("peak(1, 0, 0, 1, 0)", y.peak(1, 0, 0, 1, 0), -1);
        due("peak(-1, MAX, ..)", y.peak(-1, MAX, MIN, MIN, MAX), -1);
    }

    private static void promise24() {
        SpreadRows x = told("bits a 4 1; samples 32; send s a 3 0 1 0;");
        due("alarms", x.alarms(0, 0, 1, 144), 4);
        due("alarms", x.alarms(0, 0, 1, 145), 0);
        due("alarms", x.alarms(0, 0, 1, 1), 4);
        due("alarms", x.alarms(0, 0, 1, 0), 16);
        due("alarms", x.alarms(0, 0, 1, -1), 16);
        due("alarms", x.alarms(0, 0, 1, Long.MIN_VALUE), 16);
        due("alarms", x.alarms(0, 0, 1, Long.MAX_VALUE), 0);
        due("alarms", x.alarms(0, 0, 2, 288), 4);
        due("alarms of -1", x.alarms(-1, 0, 1, 0), -1);
        due("alarms of 1", x.alarms(1, 0, 1, 0), -1);
        due("alarms, w 32", x.alarms(0, 32, 1, 0), -1);
        due("alarms, m 0", x.alarms(0, 0, 0, 0), -1);
        due("alarms, m 10", x.alarms(0, 0, 10, 0), -1);
        due("more than an int", told("bits a 4 1;").alarms(0, 0, 1, 1L << 32), 0);
    }

    private static void promise25() {
        // CELLS 4, 5, 6, 7 have it
        SpreadRows x = told("bits a 4 1; samples 32; send s a 3 1 1 0;");
        rowDue("looks from each", "5 4 3 2 1 1 1 1 13 12 11 10 9 8 7 6 -1", c -> x.plan(0, 0, 1, c, 1, 81));
        rowDue("looks by steps of", "-1 5 3 3 2 2 2 2 -2 5 3 3 4 4 6 10 -2 -1", s -> x.plan(0, 0, 1, 0, s, 81));
        due("none has it", x.plan(0, 0, 1, 0, 1, 82), -2);
        SpreadRows last = told("reg m 5 5 3; samples 200; send s m 7 0 0 0;");
        due("the last one has it", last.plan(0, 0, 3, 1, 1, 3 * 217 * 217), 124);
        due("all but it", last.plan(0, 0, 3, 0, 1, 3 * 217 * 217), 1);
        due("all have it", x.plan(0, 0, 1, 15, 16, Long.MIN_VALUE), 1);
        due("cell -1", x.plan(0, 0, 1, -1, 1, 0), -1);
        due("step -1", x.plan(0, 0, 1, 0, -1, 0), -1);
        due("code 1", x.plan(1, 0, 1, 0, 1, 0), -1);
        due("w 32", x.plan(0, 32, 1, 0, 1, 0), -1);
        due("m 0", x.plan(0, 0, 0, 0, 1, 0), -1);
        due("m 10, none has it", x.plan(0, 0, 10, 0, 1, Long.MAX_VALUE), -1);
        due("far ones", x.plan(0, 0, 1, MAX, MAX, 0), -1);
    }

    private static void promise26() {
        long[][] dues = {{4, 1, 0, 1, 0, 5, 2}, {4, 1, 1, 2, 3, 53, 4}, {1000, 1, 100, 100, 1000, 199000001, 2}, {2, 1, 0, 1, 0, 3, 2},
            {10, 3, 1, 4, 7, 527, 24}, {1000, 100, 0, 100, 0, 1001, 2}, {508, 9, 2, 10, 50, 61367, 18}};
        SpreadRows x = new SpreadRows();
        for (long[] d : dues) {
            due("mean above", x.mean((int) d[0], (int) d[1], (int) d[2], (int) d[3], (int) d[4], false), d[5]);
            due("mean below", x.mean((int) d[0], (int) d[1], (int) d[2], (int) d[3], (int) d[4], true), d[6]);
        }
        int[][] none = {{1, 1, 0, 1, 0}, {1001, 1, 0, 1, 0}, {4, 0, 0, 1, 0}, {4, 2, 0, 1, 0}, {4, 1, -1, 1, 0}, {4, 1, 2, 1, 0},
            {4, 1, 0, 0, 0}, {4, 0, 0, 0, 0}, {4, 1, 0, 101, 0}, {4, 1, 0, 1, -1}, {4, 1, 0, 1, 1001}, {MIN, MIN, MIN, MIN, MIN}, {MAX, MAX, MAX, MAX, MAX}};
        for (int[] d : none) {
            due("mean of wrong ones", x.mean(d[0], d[1], d[2], d[3], d[4], false), -1);
            due("mean of wrong ones", x.mean(d[0], d[1], d[2], d[3], d[4], true), -1);
        }
    }

    private static void promise27() {
        long[][] dues = {{4, 1, 2, 1, 3, 4}, {4, 1, 2, 3, 3, 0}, {4, 1, 2, 2, 3, 4}, {2, 1, 1, 0, 0, 0}, {2, 1, 3, 0, 5, 171}, {3, 2, 5, 1, 6, 10000},
            {2, 1, 2, 1, 9, 480}, {2, 1, 10, 0, 18, 612579511000000000L}, {2, 10, 10, 0, 18, 1000000000000000000L},
            {1000, 1, 1, 0, 1, 1}, {1000, 10, 10, 999, 18, 0}, {1000, 1, 10, 17, 18, 100000000000000000L}};
        SpreadRows x = new SpreadRows();
        for (long[] d : dues) due("over", x.over((int) d[0], (int) d[1], (int) d[2], (int) d[3], (int) d[4]), d[5]);
        int[][] none = {{1, 1, 1, 0, 0}, {1001, 1, 1, 0, 0}, {2, 0, 1, 0, 0}, {2, 2, 1, 0, 0}, {2, 1, 11, 0, 0}, {2, 0, 0, 0, 0}, {2, 1, 1, 2, 0},
            {2, 1, 1, -1, 0}, {2, 1, 1, 0, -1}, {2, 1, 1, 0, 19}, {MIN, MIN, MIN, MIN, MIN}, {MAX, MAX, MAX, MAX, MAX}};
        for (int[] d : none) due("over of wrong ones", x.over(d[0], d[1], d[2], d[3], d[4]), -1);
    }

    // ---- what is read

    private static void promise28() {
        SpreadRows x = told(PLAIN);
        rowDue("bits", "0 1 0 0 0 0 0 0 -2 -2", p -> x.bit(0, p));
        due("bit(0, -1)", x.bit(0, -1), -1);
        due("bit(0, MAX)", x.bit(0, MAX), -2);
        due("bit(1, 0)", x.bit(1, 0), -1);
        due("bit(-1, 0)", x.bit(-1, 0), -1);
        due("bit(1, 99)", x.bit(1, 99), -1);
        // a sum of 0 is a 0; what comes in counts, not DATA
        x.add(0, -1);
        rowDue("bits of nothing", "0 0 0 0 0 0 0 0 -2", p -> x.bit(0, p));
        x.add(0, -1);
        rowDue("bits turned", "1 0 1 1 1 1 1 1 -2", p -> x.bit(0, p));
        // every TONE is read as its WAVE lies
        for (int tone = 0; tone < 4; tone++) {
            SpreadRows y = told("reg m 3 3 1; samples 100; send s m 1 2 " + tone + " 5461;");
            rowDue("bits of tone " + tone, "1 0 1 0 1 0 1 0 1 0 1 0 1 0 -2", p -> y.bit(0, p));
        }
        // the other axis is not looked at; begun PERIODS are read by what there is of them
        SpreadRows z = told("bits a 13 0; samples 16; send s a 1 2 0 2; jam 15 15 9 1;");
        rowDue("bits", "0 0 -2", p -> z.bit(0, p));
        SpreadRows late = told("reg m 7 3 1; samples 16; send s m 1 16 0 1; send t m 1 15 0 1;");
        rowDue("bits before the DELAY", "-2 -2", p -> late.bit(0, p));
        rowDue("bits of one sample", "1 -2", p -> late.bit(1, p));
    }

    private static void promise29() {
        SpreadRows x = told(PLAIN);
        due("wrong(0)", x.wrong(0), 0);
        due("wrong(1)", x.wrong(1), -1);
        due("wrong(-1)", x.wrong(-1), -1);
        due("wrong(MAX)", x.wrong(MAX), -1);
        x.add(0, -1);
        due("wrong of nothing", x.wrong(0), 1);
        x.add(0, -1);
        due("wrong of all", x.wrong(0), 8);
        // DATA comes again with PERIOD 14
        SpreadRows y = told("bits a 1 0; samples 100; send s a 1 0 3 9999;");
        due("wrong of 100", y.wrong(0), 0);
        y.add(0, -1);
        due("wrong of nothing", y.wrong(0), 58);
        SpreadRows two = told(TWO);
        due("wrong of the strong one", two.wrong(0), 0);
        due("wrong of the weak one", two.wrong(1), 1);
    }

    private static void promise30() {
        // the ECHO alone tells more than the WAVE, which a JAM turns
        SpreadRows x = told("bits a 4 0; samples 32; send s a 2 0 0 0; echo s 16 9; jam 4 4 99 1;");
        x.add(0, -2);
        rowDue("bits", "1 0 1 1 1 1 1 1 -2", p -> x.bit(0, p));
        rowDue("joined", "1 1 1 1 1 1 1 1 -2", p -> x.joined(0, p));
        // each by its own AMPLITUDE
        SpreadRows loud = told("bits a 4 0; samples 32; send s a 9 0 0 0; echo s 16 1; send t a 1 0 0 1; jam 16 19 5 1;");
        loud.add(0, -1);
        rowDue("joined by AMPLITUDES", "1 0 0 0 0 0 0 0 -2", p -> loud.joined(0, p));
        loud.anew();
        loud.add(0, -1);
        loud.add(1, -1);
        rowDue("joined", "0 0 0 0 0 0 0 0 -2", p -> loud.joined(0, p));
        SpreadRows least = told("bits a 1 0; samples 16; send s a 1 0 0 1;");
        rowDue("joined of one sample", "1 0", p -> least.joined(0, p));
        due("joined(0, -1)", x.joined(0, -1), -1);
        due("joined(1, 0)", x.joined(1, 0), -1);
        due("joined(-1, 0)", x.joined(-1, 0), -1);
        due("joined(1, 77)", x.joined(1, 77), -1);
        due("joined(0, MAX)", x.joined(0, MAX), -2);
        // minus ECHOES, a turn on the way: signed as the WAVE was
        SpreadRows y = told("bits a 4 3; samples 48; send s a 1 0 1 2730; echo s 5 - 3; echo s 9 2; noise 9 5;");
        due("joined", row(13, p -> y.joined(0, p)), "0 1 0 1 1 0 0 1 0 1 0 1 -2");
        due("bits", row(13, p -> y.bit(0, p)), "0 1 0 1 0 0 0 1 1 1 1 1 -2");
    }

    private static void promise31() {
        SpreadRows x = told("bits a 4 1; samples 60; send s a 3 1 0 2730;");
        // READ: 0 1 0 1 0 1 0 1 0 1 0 1 0 0 0
        due("frame(0, 0, 1)", x.frame(0, 0, 1), 0);
        due("frame(0, 1, 1)", x.frame(0, 1, 1), 1);
        due("frame(0, 2, 2)", x.frame(0, 2, 2), 0);
        due("frame(0, 1, 2)", x.frame(0, 1, 2), 1);
        due("frame(0, 0, 2)", x.frame(0, 0, 2), 12);
        due("frame(0, 0, 3)", x.frame(0, 0, 3), 12);
        due("frame(0, 0, 4)", x.frame(0, 0, 4), -2);
        due("frame(0, 3, 2)", x.frame(0, 3, 2), -2);
        due("frame(0, 2730, 13)", x.frame(0, 2730, 13), 0);
        due("frame(0, 1365, 13)", x.frame(0, 1365, 13), 1);
        due("frame(0, 682, 13)", x.frame(0, 682, 13), 2);
        due("frame(0, 341, 12)", x.frame(0, 341, 12), 3);
        due("frame(0, 341, 13)", x.frame(0, 341, 13), -2);
        due("frame(0, 8191, 13)", x.frame(0, 8191, 13), -2);
        due("frame(0, 8192, 13)", x.frame(0, 8192, 13), -1);
        due("frame(0, 0, 14)", x.frame(0, 0, 14), -1);
        due("frame(0, 0, 0)", x.frame(0, 0, 0), -1);
        due("frame(0, 4, 2)", x.frame(0, 4, 2), -1);
        due("frame(0, -1, 2)", x.frame(0, -1, 2), -1);
        due("frame(1, 0, 1)", x.frame(1, 0, 1), -1);
        due("frame(-1, 3, 2)", x.frame(-1, 3, 2), -1);
        due("frame(0, MAX, MAX)", x.frame(0, MAX, MAX), -1);
        due("frame(0, 0, MIN)", x.frame(0, 0, MIN), -1);
        SpreadRows late = told("reg m 7 3 1; samples 16; send s m 1 16 0 1;");
        due("frame of nothing", late.frame(0, 0, 1), -2);
    }

    private static void promise32() {
        // all CHIPS are -1: each PERIOD's sum is 12, a pulse of 4 times 4 turns it
        SpreadRows x = told("bits a 4 15; samples 16; send s a 3 0 0 0;");
        int[][] dues = {{4, 4, 0, 1}, {4, 3, 0, 0}, {5, 4, 0, 1}, {8, 4, 0, 2}, {9, 4, 0, 2}, {12, 4, 0, 3}, {16, 4, 0, 4}, {99, 99, 0, 4}, {1, 12, 0, 0},
            {1, 13, 0, 1}, {2, 13, 3, 2}, {6, 13, 3, 3}, {10, 13, 3, 4}, {7, 7, 0, 2}, {8, 7, 2, 3}, {99, 1, 0, 0}};
        for (int[] d : dues) {
            due("hurt(0, " + d[0] + ", " + d[1] + ", 0)", x.hurt(0, d[0], d[1], 0), d[2]);
            due("hurt(0, " + d[0] + ", " + d[1] + ", 1)", x.hurt(0, d[0], d[1], 1), d[3]);
        }
        due("power stays", x.power(0, 15), 16 * 9);
        // only the last PERIOD is weak, only a whole pulse is enough for it
        SpreadRows weak = told("bits a 4 15; samples 16; send s a 3 0 0 0; jam 12 15 2 1;");
        due("hurt of a weak one", weak.hurt(0, 2, 3, 0), 12);
        due("hurt of a weak one", weak.hurt(0, 2, 3, 1), 1);
        due("hurt(0, 0, ..)", x.hurt(0, 0, 4, 0), -1);
        due("hurt(0, 100, ..)", x.hurt(0, 100, 4, 0), -1);
        due("hurt(0, .., 0, ..)", x.hurt(0, 4, 0, 0), -1);
        due("hurt(0, .., 100, ..)", x.hurt(0, 4, 100, 0), -1);
        due("hurt(0, .., 2)", x.hurt(0, 4, 4, 2), -1);
        due("hurt(0, .., -1)", x.hurt(0, 4, 4, -1), -1);
        due("hurt(1, ..)", x.hurt(1, 4, 4, 0), -1);
        due("hurt(-1, ..)", x.hurt(-1, 4, 4, 0), -1);
        due("hurt of far ones", x.hurt(MAX, MIN, MAX, MIN), -1);
        // re alone: where the WAVE lies at im no pulse hurts it; a helping one mends
        SpreadRows y = told("bits a 4 15; samples 32; send s a 3 0 1 0;");
        due("hurt at re times -1", y.hurt(0, 99, 99, 0), 0);
        due("hurt how many", y.hurt(0, 99, 99, 1), 2);
        SpreadRows z = told("bits a 8 255; samples 32; send s a 3 0 2 15;");
        due("hurt behind turns", z.hurt(0, 8, 99, 0), 1);
        due("hurt how many", z.hurt(0, 8, 99, 1), 1);
        due("hurt of what is hurt", told("bits a 4 15; samples 16; send s a 3 0 0 0; jam 8 8 99 1;").hurt(0, 4, 4, 1), 2);
        SpreadRows late = told("reg m 7 3 1; samples 16; send s m 1 16 0 1;");
        due("hurt of nothing", late.hurt(0, 9, 9, 0), 0);
        due("hurt of nothing", late.hurt(0, 9, 9, 1), 0);
    }

    private static void promise33() {
        SpreadRows x = told(TWO);
        rowDue("at once", "-1 1 0 0 0 0 0 -1", x::atOnce);
        due("atOnce(-1)", x.atOnce(-1), -1);
        due("atOnce(MAX)", x.atOnce(MAX), -1);
        due("power stays", x.power(0, 15), 1504);
        SpreadRows y = told(THREE);
        rowDue("at once", "-1 4 3 1 1 1 1 -1", y::atOnce);
        due("no senders", new SpreadRows().atOnce(6), 0);
    }

    private static void promise34() {
        SpreadRows x = told(TWO);
        due("taken(0, 0)", x.taken(0, 0), 0);
        due("taken(0, 99)", x.taken(0, 99), 0);
        due("power stays", x.power(0, 15), 1504);
        rowDue("order", "0 1 -1", i -> x.taken(1, i));
        due("taken(1, -1)", x.taken(1, -1), -1);
        due("taken(2, 0)", x.taken(2, 0), -1);
        due("taken(-1, 0)", x.taken(-1, 0), -1);
        due("taken(MIN, MAX)", x.taken(MIN, MAX), -1);
        x.add(0, -2);
        due("taken(0, 0) behind", x.taken(0, 0), 4);
        // a sum of 0 is taken out as a 0
        SpreadRows none = told(TWO);
        none.add(0, -1);
        none.add(1, -1);
        due("taken(0, 0) of nothing", none.taken(0, 0), 3);
        SpreadRows y = told("bits a 4 1; send s a 5 0 0 0; send t a 9 1 0 0; send u a 5 2 0 0; send v a 9 3 0 0; send w a 1 0 0 0; send x a 6 0 0 0;");
        rowDue("order", "1 3 5 0 2 4 -1", i -> y.taken(1, i));
        SpreadRows z = told(THREE);
        due("taken(0, 0) of three", z.taken(0, 0), 4);
    }

    private static void promise35() {
        SpreadRows x = told(TWO);
        rowDue("rest", "1504 64 0 -1", n -> (int) x.rest(n));
        due("rest(-1)", x.rest(-1), -1);
        due("rest(MAX)", x.rest(MAX), -1);
        due("power stays", x.power(0, 15), 1504);
        // what is READ is taken away, not what was sent
        x.add(0, -2);
        rowDue("rest behind", "1216 64 0 -1", n -> (int) x.rest(n));
        // with ECHOES, but not the JAM
        SpreadRows y = told(FULL);
        rowDue("rest", "203 75 -1", n -> (int) y.rest(n));
        due("rest of nothing", new SpreadRows().rest(0), 0);
        due("rest of nothing", new SpreadRows().rest(1), -1);
        SpreadRows z = told(THREE);
        rowDue("rest of three", "6748 4741 2300 1564 -1", n -> (int) z.rest(n));
    }

    // ---- loops, ranges

    private static void promise36() {
        SpreadRows x = told("bits a 13 7989; samples 500; send s a 5 6 0 0 drift 2;");
        rowDue("loops from 6", "6 6 6 7 7 8 8 9 9 10 10 11 11 12 12 0 0 1 1 2 2 3 3 4 4 5 5 6 6 7 7 8 8 9 9 10 10 11 11 12 12", m -> x.loop(0, 6, 0, 0, m));
        rowDue("loops from 12", "12 11 11 11 11 11 11 11 11 10 10 11 11 12 12 0 0 1 1 2 2 3 3 4 4 5 5 6 6 7 7 8 8 9 9 10 10 11 11 12 12", m -> x.loop(0, 12, 0, 0, m));
        due("loop(.., 41)", x.loop(0, 6, 0, 0, 41), -1);
        due("loop(.., -1)", x.loop(0, 6, 0, 0, -1), -1);
        due("loop(0, 13, ..)", x.loop(0, 13, 0, 0, 1), -1);
        due("loop(0, -1, ..)", x.loop(0, -1, 0, 0, 1), -1);
        due("loop(0, 0, 4, ..)", x.loop(0, 0, 4, 0, 1), -1);
        due("loop(0, 0, -1, ..)", x.loop(0, 0, -1, 0, 1), -1);
        due("loop(0, 0, 0, 500, ..)", x.loop(0, 0, 0, 500, 1), -1);
        due("loop(0, 0, 0, -1, ..)", x.loop(0, 0, 0, -1, 1), -1);
        due("loop(0, 3, 0, 499, 40)", x.loop(0, 3, 0, 499, 40), 3);
        due("loop(1, ..)", x.loop(1, 0, 0, 0, 0), -1);
        due("loop(-1, ..)", x.loop(-1, 0, 0, 0, 0), -1);
        due("loop of far ones", x.loop(MAX, MIN, MAX, MIN, MAX), -1);
        // up over the end of the row, down under its begin
        SpreadRows y = told("bits a 4 1; samples 64; send s a 3 0 0 0;");
        rowDue("up", "3 0 0", m -> y.loop(0, 3, 0, 4, m));
        rowDue("down", "1 0 0", m -> y.loop(0, 1, 0, 4, m));
        rowDue("stays", "2 2 2", m -> y.loop(0, 2, 0, 4, m));
        SpreadRows level = told("reg m 5 5 1; samples 200; send s m 5 5 0 0; send t m 5 6 0 0;");
        rowDue("alike ones", "5 5 5", m -> level.loop(0, 5, 0, 31, m));
        rowDue("alike ones", "6 6 6", m -> level.loop(0, 6, 0, 31, m));
        SpreadRows z = told("bits a 4 1; samples 64; send s a 3 3 1 0; bits b 1 0; bits c 2 1;");
        rowDue("down under", "0 3 3", m -> z.loop(0, 0, 1, 8, m));
        rowDue("one chip", "0 0 0", m -> z.loop(1, 0, 1, 8, m));
        rowDue("two chips", "1 1 1", m -> z.loop(2, 1, 0, 0, m));
    }

    private static void promise37() {
        SpreadRows x = told("reg m 5 5 1; samples 512; send s m 5 6 1 0; send t m 9 6 2 0 drift 1; send u m 9 20 3 0 drift 3;");
        for (int s = 0; s < 3; s++) {
            int till = s == 0 ? 40 : s == 1 ? 17 : 20;
            for (int m = 0; m <= 40; m++) due("follows(" + s + ", " + m + ")", x.follows(s, m), m <= till ? 1 : 0);
            due("follows(.., 41)", x.follows(s, 41), -1);
            due("follows(.., -1)", x.follows(s, -1), -1);
        }
        // the loop goes with the other one, from the first PERIOD on
        SpreadRows lost = told("reg m 5 5 1; samples 200; send s m 1 5 0 0; send t m 9 6 0 0 drift 1;");
        rowDue("follows a stronger one", "1 1 0 0", m -> lost.follows(0, m));
        due("follows(3, 0)", x.follows(3, 0), -1);
        due("follows(-1, 0)", x.follows(-1, 0), -1);
        due("follows(MIN, MAX)", x.follows(MIN, MAX), -1);
    }

    private static void promise38() {
        SpreadRows x = told("bits a 4 1; reg b 3 3 1; reg c 4 3 1; bits d 6 1; bits e 1 0; reg f 7 3 1; reg g 6 3 1; bits h 13 0;");
        due("range of one", x.range(0, 3, -1, 0, -1, 0), 3);
        due("range of one", x.range(0, 3, -1, MIN, -1, MAX), 3);
        due("range of two", x.range(0, 1, 1, 2, -1, 99), 9);
        due("range of two", x.range(1, 2, 0, 1, -1, 99), 9);
        due("range of three", x.range(0, 1, 1, 2, 2, 3), 93);
        due("range of 0", x.range(0, 0, 1, 0, -1, 0), 0);
        due("range of 0", x.range(0, 0, 1, 0, 2, 0), 0);
        due("range of the same", x.range(0, 1, 0, 1, 0, 1), 1);
        due("range of the same, unlike", x.range(0, 1, 0, 2, -1, 0), -2);
        due("range, 4 and 6", x.range(0, 1, 3, 3, -1, 0), 9);
        due("range, 4 and 6", x.range(0, 1, 3, 2, -1, 0), -2);
        due("range, 4, 6 and 15", x.range(0, 1, 3, 3, 2, 6), 21);
        due("range, 4, 6 and 15", x.range(0, 1, 3, 3, 2, 7), -2);
        due("range, 4, 7 and 6", x.range(0, 1, 1, 2, 3, 2), -2);
        due("range of long ones", x.range(5, 126, 6, 62, 7, 12), 127 * 63 * 13 - 1);
        due("range of one chip", x.range(4, 0, 1, 6, 4, 0), 6);
        due("the first one NONE", x.range(-1, 0, 0, 1, -1, 0), -1);
        due("the second one NONE", x.range(0, 1, -1, 0, 3, 2), -1);
        due("a delay of 4", x.range(0, 4, -1, 0, -1, 0), -1);
        due("a delay of -1", x.range(0, -1, -1, 0, -1, 0), -1);
        due("a delay of 7", x.range(0, 0, 1, 7, -1, 0), -1);
        due("a delay of 15", x.range(0, 0, 0, 1, 2, 15), -1);
        due("no code 8", x.range(0, 0, 8, 0, -1, 0), -1);
        due("no code -2", x.range(0, 0, -2, 0, -1, 0), -1);
        due("no code 8, the third", x.range(0, 0, 0, 0, 8, 0), -1);
        due("far ones", x.range(MAX, MAX, MIN, MIN, MAX, MIN), -1);
        due("none at all", new SpreadRows().range(-1, 0, -1, 0, -1, 0), -1);
    }

    private static void promise39() {
        SpreadRows x = told("bits a 4 1; reg b 3 3 1; bits c 6 0; reg d 7 3 1; reg e 6 3 1;");
        rowDue("near", "0 1 1 1 1 1 1 1 1 9 9", most -> x.near(0, 1, 1, 2, most));
        rowDue("near of one", "0 0 0 3 3", most -> x.near(0, 3, -1, MIN, most));
        due("near of the same", x.near(0, 1, 0, 3, 100), 0);
        due("near, 4 and 6", x.near(0, 1, 2, 2, 100), 1);
        due("near of long ones", x.near(3, 126, 4, 62, 20000), 127 * 63 - 1);
        due("near, most 20001", x.near(0, 1, 1, 2, 20001), -1);
        due("near, most -1", x.near(0, 1, 1, 2, -1), -1);
        due("near, a delay of 4", x.near(0, 4, 1, 2, 9), -1);
        due("near, a delay of 7", x.near(0, 1, 1, 7, 9), -1);
        due("near, a delay of -1", x.near(0, -1, 1, 2, 9), -1);
        due("near, no first one", x.near(-1, 0, 1, 2, 9), -1);
        due("near, no code 5", x.near(5, 0, 1, 2, 9), -1);
        due("near, no code -2", x.near(0, 0, -2, 0, 9), -1);
        due("near of far ones", x.near(MIN, MAX, MIN, MAX, MIN), -1);
    }

    // ---- hops

    private static void promise40() {
        SpreadRows x = told(HOPS);
        rowDue("hop 0", "0 3 3 0 4 0 3 3 0 4", i -> x.hop(0, i));
        rowDue("hop 1", "0 2 3 3 2 0", i -> x.hop(1, i));
        rowDue("hop 2", "0 1 4 2 2 4 1 0 1", i -> x.hop(2, i));
        rowDue("hop 4", "0 0 0", i -> x.hop(4, i));
        due("hop(3, 30)", x.hop(3, 30), 30);
        due("hop(3, 31)", x.hop(3, 31), 0);
        due("hop(0, MAX)", x.hop(0, MAX), 3);
        due("hop(0, -1)", x.hop(0, -1), -1);
        due("hop(0, MIN)", x.hop(0, MIN), -1);
        due("hop(5, 0)", x.hop(5, 0), -1);
        due("hop(-1, 0)", x.hop(-1, 0), -1);
        due("a hop as long as can be", told("hop h 31 30 30;").hop(0, 29), (30 * 29 * 29 + 30 * 29) % 31);
    }

    private static void promise41() {
        SpreadRows x = told(HOPS);
        rowDue("hits 0 1", "2 2 2 0 0 -1", s -> x.hits(0, 1, s));
        rowDue("hits 0 0", "5 1 1 1 1 -1", s -> x.hits(0, 0, s));
        rowDue("hits 4 4", "2 2 -1", s -> x.hits(4, 4, s));
        due("hits(0, 2, 0)", x.hits(0, 2, 0), -1);
        due("hits(0, 5, 0)", x.hits(0, 5, 0), -1);
        due("hits(-1, 0, 0)", x.hits(-1, 0, 0), -1);
        due("hits(0, 1, -1)", x.hits(0, 1, -1), -1);
        due("hits(0, 1, MAX)", x.hits(0, 1, MAX), -1);
    }

    private static void promise42() {
        SpreadRows x = told(HOPS + "hop y 5 1 2;");
        rowDue("worst hits of 0", "1 2 -1 -1 -1 5 -1", o -> x.worstHits(0, o));
        rowDue("worst hits of each with itself", "1 1 1 0 2 1 -1", o -> x.worstHits(o, o));
        due("worstHits(-1, 0)", x.worstHits(-1, 0), -1);
        due("worstHits(0, MAX)", x.worstHits(0, MAX), -1);
    }

    private static void promise43() {
        SpreadRows x = told(HOPS);
        rowDue("crowded from 0 on", "1 1 2 2 2 3", b -> x.crowded(3, 0, b));
        due("crowded(3, 1, 4)", x.crowded(3, 1, 4), 1);
        due("crowded(3, 0, 999)", x.crowded(3, 0, 999), 400);
        due("crowded(31, 0, 999)", x.crowded(31, 0, 999), 852);
        due("crowded(1, 0, 999)", x.crowded(1, 0, 999), 0);
        due("crowded(0, 0, 999)", x.crowded(0, 0, 999), 0);
        due("crowded(3, 999, 999)", x.crowded(3, 999, 999), 0);
        due("crowded(3, 0, 1000)", x.crowded(3, 0, 1000), -1);
        due("crowded(3, 5, 4)", x.crowded(3, 5, 4), -1);
        due("crowded(3, -1, 4)", x.crowded(3, -1, 4), -1);
        due("crowded(32, 0, 4)", x.crowded(32, 0, 4), -1);
        due("crowded(-1, 0, 4)", x.crowded(-1, 0, 4), -1);
        due("crowded(MIN, 0, 4)", x.crowded(MIN, 0, 4), -1);
        due("crowded(0, MIN, MAX)", x.crowded(0, MIN, MAX), -1);
        due("crowded without hops", new SpreadRows().crowded(1, 0, 0), -1);
    }

    private static void promise44() {
        SpreadRows x = told(HOPS);
        rowDue("jammed, one CHANNEL each", "2 0 0 2 1 0 0 0", c -> x.jammed(0, 1 << c));
        due("jammed(0, 0)", x.jammed(0, 0), 0);
        due("jammed(0, 25)", x.jammed(0, 25), 5);
        due("jammed(0, -1)", x.jammed(0, -1), 5);
        due("jammed(0, MIN)", x.jammed(0, MIN), 0);
        due("jammed(3, MAX)", x.jammed(3, MAX), 31);
        due("jammed(3, 1 << 30)", x.jammed(3, 1 << 30), 1);
        due("jammed(5, 1)", x.jammed(5, 1), -1);
        due("jammed(-1, 1)", x.jammed(-1, 1), -1);
    }

    private static void promise45() {
        SpreadRows x = told(HOPS);
        rowDue("strongest of 0", "0 1 9 25 27 31 -1", k -> x.strongest(0, k));
        rowDue("strongest of 1", "0 4 12 13 15 31 -1", k -> x.strongest(1, k));
        rowDue("strongest of 2", "0 2 6 22 23 31 63 127 -1", k -> x.strongest(2, k));
        rowDue("strongest of 4", "0 1 3 -1", k -> x.strongest(4, k));
        due("strongest(3, 31)", x.strongest(3, 31), MAX);
        due("strongest(3, 30)", x.strongest(3, 30), (1 << 30) - 1);
        due("strongest(3, 32)", x.strongest(3, 32), -1);
        due("strongest(0, -1)", x.strongest(0, -1), -1);
        due("strongest(5, 0)", x.strongest(5, 0), -1);
        due("strongest(-1, 0)", x.strongest(-1, 0), -1);
        due("strongest(MAX, MIN)", x.strongest(MAX, MIN), -1);
    }

    // ---- what is kept

    private static void promise46() {
        SpreadRows x = told(FULL);
        due("hold(0)", x.hold(0), true);
        due("hold(2)", x.hold(2), true);
        due("hold(2)", x.hold(2), true);
        due("count(7)", x.count(7), 2);
        due("hold(3)", x.hold(3), false);
        due("hold(-1)", x.hold(-1), false);
        due("hold(MIN)", x.hold(MIN), false);
        due("count(7)", x.count(7), 2);
        due("power stays", x.power(0, 23), 203);
        // a SLOT holds what came in then, both numbers of it
        x.noise(50, 1);
        x.hold(2);
        long power = x.power(0, 23);
        int im = x.sample(5, true);
        x.anew();
        x.restore(2);
        due("power", x.power(0, 23), power);
        due("sample(5, true)", x.sample(5, true), im);
        x.restore(0);
        due("power of SLOT 0", x.power(0, 23), 203);
    }

    private static void promise47() {
        SpreadRows x = told(FULL);
        due("restore(1)", x.restore(1), false);
        x.hold(1);
        x.add(0, 3);
        due("restore(0)", x.restore(0), false);
        due("restore(3)", x.restore(3), false);
        due("restore(-1)", x.restore(-1), false);
        due("restore(33)", x.restore(33), false);
        due("power", x.power(0, 23) == 203, false);
        due("restore(1)", x.restore(1), true);
        due("power", x.power(0, 23), 203);
        // that stays there
        x.add(0, 3);
        due("restore(1)", x.restore(1), true);
        due("power", x.power(0, 23), 203);
        due("read", read(x, "oh"), 1);
        due("restore(1)", x.restore(1), true);
        due("read", read(x, FULL), 0);
        due("restore(1)", x.restore(1), false);
        due("count(7)", x.count(7), 0);
    }

    private static void promise48() {
        SpreadRows x = told(CODES + HOPS + FULL.replace("bits a 4 1;", "") + "send late m 1 6 0 0; send slow m 1 0 0 0 drift 99; noise 7 7; noise 8 8;");
        write(x, "tail");
        x.hold(0);
        x.noise(50, 1);
        rowDue("count", "8 5 3 1 1 24 4 1 8 -1 5 3 4 -1 -1 -1 -1 -1 -1 -1 5 5 7 31 2 -1 -1", x::count);
        due("count(-1)", x.count(-1), -1);
        due("count(MIN)", x.count(MIN), -1);
        due("count(MAX)", x.count(MAX), -1);
        SpreadRows y = told("reg m 7 3 1; bits o 1 0; samples 16; send s m 1 16 0 0; send t m 1 15 0 0; send u o 1 0 0 0; send v o 1 0 0 0 drift 1; send w o 1 0 0 0 drift 2;");
        rowDue("periods", "0 1 16 1 9 -1", s -> y.count(10 + s));
    }
}
