import java.io.IOException;
import java.nio.file.Files;
import java.nio.file.Path;
import java.util.Objects;
import java.util.TreeSet;
import java.util.function.IntToLongFunction;
import java.util.function.IntUnaryOperator;

/** What the tests share: texts onto the tape, and answers laid beside those that are due. */
class Kit {
    static final int MIN = Integer.MIN_VALUE;
    static final int MAX = Integer.MAX_VALUE;
    private static final int PROMISES = 48;
    private static final String STALE = stale();

    static int looked = 0;
    static int wrong = 0;
    private static String heading = "";
    private static int lookedAhead = 0;
    private static int sentences = 0;
    private static final TreeSet<Integer> kept = new TreeSet<>();
    private static String document = null;

    Kit() {
    }

    /** As much as a text can tell, with long rows. */
    private static String stale() {
        StringBuilder all = new StringBuilder("samples 512; noise 50 1;");
        for (int i = 0; i < 8; i++) all.append("reg zzc").append((char) ('a' + i)).append(" 7 65 ").append(i + 1).append(';');
        for (int i = 0; i < 6; i++) {
            char n = (char) ('a' + i);
            all.append("hop zzh").append(n).append(" 31 7 5;send zzs").append(n).append(" zzca 99 ").append(i).append(" 2 1 drift 9;");
            all.append("echo zzsa ").append(i + 1).append(" 9;");
        }
        for (int i = 0; i < 4; i++) all.append("jam 0 511 99 1;");
        return all.toString();
    }

    // ---- sentences of the document

    /** What comes next is due by a sentence of the document, that promises keep: their numbers, with blanks between. */
    static void sentence(String promises, String words) {
        endSentence();
        heading = "promise " + promises.replace(" ", ", ") + ", \"" + words + "\": ";
        lookedAhead = looked;
        sentences++;
        for (String number : promises.split(" ")) kept.add(Integer.parseInt(number));
        if (!document().contains(words)) {
            wrong++;
            System.out.println(heading + "no such words in the document");
        }
    }

    private static void endSentence() {
        if (sentences > 0 && looked == lookedAhead) {
            wrong++;
            System.out.println(heading + "nothing was looked at");
        }
    }

    /** Each promise has a sentence of its own. */
    static void endSentences() {
        endSentence();
        heading = "";
        System.out.println(sentences + " sentences of the document");
        for (int i = 1; i <= PROMISES; i++) due("a sentence of promise " + i, kept.contains(i), true);
    }

    /** The document, with one blank wherever it has any. */
    private static String document() {
        if (document == null) {
            try {
                document = Files.readString(Path.of("../shared/DOC.md")).replaceAll("\\s+", " ");
            } catch (IOException e) {
                throw new java.io.UncheckedIOException(e);
            }
        }
        return document;
    }

    // ---- answers

    private static void lay(String call, String got, String want) {
        looked++;
        if (!Objects.equals(got, want)) {
            wrong++;
            System.out.println(heading + shortened(call) + " answered " + got + ", due is " + want);
        }
    }

    private static String shortened(String call) {
        int n = call.length();
        return n < 300 ? call : call.substring(0, 100) + " .. " + call.substring(n - 150);
    }

    static void due(String call, long got, long want) {
        lay(call, "" + got, "" + want);
    }

    static void due(String call, boolean got, boolean want) {
        lay(call, "" + got, "" + want);
    }

    static void due(String call, String got, String want) {
        lay(call, got, want);
    }

    /** Some answers in a row, with blanks between. */
    static String row(int n, IntUnaryOperator answer) {
        StringBuilder all = new StringBuilder();
        for (int i = 0; i < n; i++) all.append(i == 0 ? "" : " ").append(answer.applyAsInt(i));
        return all.toString();
    }

    static void rowDue(String what, String want, IntUnaryOperator answer) {
        due(what, row(want.split(" ").length, answer), want);
    }

    /** A call that is refused with each of these arguments. */
    static void refused(String call, long want, IntToLongFunction answer, int... arguments) {
        for (int argument : arguments) due(call + " of " + argument, answer.applyAsLong(argument), want);
    }

    // ---- texts

    /** The five ints of twenty bytes of a text from a place on; blanks behind its end. */
    static int[] five(String text, int from) {
        int[] five = new int[5];
        for (int i = 0; i < 20; i++) {
            int sign = from + i < text.length() ? text.charAt(from + i) : ' ';
            five[i / 4] = five[i / 4] << 8 | sign & 255;
        }
        return five;
    }

    /** Puts a text behind the tape, byte for byte. */
    static void write(SpreadRows x, String text) {
        for (int from = 0; from < text.length(); from += 20) {
            int[] f = five(text, from);
            x.feed(f[0], f[1], f[2], f[3], f[4]);
        }
        x.back((20 - text.length() % 20) % 20);
    }

    static int read(SpreadRows x, String text) {
        write(x, text);
        return x.read();
    }

    /** An object that has read a text, which must be without a FAULT; what it has told before must not show. */
    static SpreadRows told(String text) {
        SpreadRows x = new SpreadRows();
        for (int i = 0; i < 2; i++) {
            due("read of what is stale", read(x, STALE), 0);
            x.family(127, 0);
            x.best(0, 0, 1);
            x.atOnce(2);
            x.hold(i);
        }
        due("read of " + text, read(x, text), 0);
        return x;
    }

    /** A text with a FAULT at the byte where ^ stands, which goes. */
    static void fault(int number, String marked) {
        int place = marked.indexOf('^');
        faultAt(number, place, marked.substring(0, place) + marked.substring(place + 1));
    }

    static void faultAt(int number, int place, String text) {
        SpreadRows x = new SpreadRows();
        due("read of " + text, read(x, text), number);
        due("place of " + text, x.place(), place);
        due("codes behind " + text, x.count(0), 0);
    }

    static void fine(String text) {
        SpreadRows x = new SpreadRows();
        due("read of " + text, read(x, text), 0);
        due("place of " + text, x.place(), SpreadRows.NONE);
    }

    /** An INT that stands where # does: WRONG but from a least to a most number. */
    static void bounds(String text, int least, int most) {
        for (int number : new int[] {least, most}) fine(text.replace("#", "" + number));
        for (int number : new int[] {0, least - 1, most + 1, 9999}) {
            boolean beside = number < least || number > most;
            if (beside && number >= 0 && number <= 9999) faultAt(5, text.indexOf('#'), text.replace("#", "" + number));
        }
    }

    static void end() {
        System.out.println(looked - wrong + " answers as due, " + wrong + " not");
        if (wrong != 0) System.exit(1);
    }
}
