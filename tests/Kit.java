import java.util.Objects;

/** What the tests share: texts onto the tape, and answers laid beside those that are due. */
final class Kit {
    private static final String STALE = stale();

    static int looked = 0;
    static int wrong = 0;

    private Kit() {
    }

    /** As much as a text can tell, with long rows. */
    private static String stale() {
        StringBuilder all = new StringBuilder("samples 512; noise 50 1;");
        for (int i = 0; i < 8; i++) all.append("reg zzc").append((char) ('a' + i)).append(" 7 65 ").append(i + 1).append(';');
        for (int i = 0; i < 6; i++) {
            char n = (char) ('a' + i);
            all.append("hop zzh").append(n).append(" 31 7 5;send zzs").append(n).append(" zzca 99 ").append(i).append(" 2 1 drift 9;");
            all.append("echo zzsa ").append(i + 1).append(" 9;");
        }
        for (int i = 0; i < 4; i++) all.append("jam 0 511 99 1;");
        return all.toString();
    }

    static void due(String call, long got, long want) {
        looked++;
        if (got != want) {
            wrong++;
            System.out.println(call + " answered " + got + ", due is " + want);
        }
    }

    static void due(String call, boolean got, boolean want) {
        looked++;
        if (got != want) {
            wrong++;
            System.out.println(call + " answered " + got + ", due is " + want);
        }
    }

    static void due(String call, String got, String want) {
        looked++;
        if (!Objects.equals(got, want)) {
            wrong++;
            System.out.println(call + " answered " + got + ", due is " + want);
        }
    }

    /** The five ints of twenty bytes of a text from a place on; blanks behind its end. */
    static int[] five(String text, int from) {
        int[] five = new int[5];
        for (int i = 0; i < 20; i++) {
            int sign = from + i < text.length() ? text.charAt(from + i) : ' ';
            five[i / 4] = five[i / 4] << 8 | sign & 255;
        }
        return five;
    }

    /** Puts a text behind the tape, byte for byte. */
    static void write(SpreadRows x, String text) {
        for (int from = 0; from < text.length(); from += 20) {
            int[] f = five(text, from);
            x.feed(f[0], f[1], f[2], f[3], f[4]);
        }
        x.back((20 - text.length() % 20) % 20);
    }

    static int read(SpreadRows x, String text) {
        write(x, text);
        return x.read();
    }

    /** An object that has read a text, which must be without a FAULT; what it has told before must not show. */
    static SpreadRows told(String text) {
        SpreadRows x = new SpreadRows();
        for (int i = 0; i < 2; i++) {
            due("read of what is stale", read(x, STALE), 0);
            x.family(127, 0);
            x.best(0, 0, 1);
            x.atOnce(2);
            x.hold(i);
        }
        due("read of " + text, read(x, text), 0);
        return x;
    }

    static void end() {
        System.out.println(looked - wrong + " answers as due, " + wrong + " not");
        if (wrong != 0) System.exit(1);
    }
}
