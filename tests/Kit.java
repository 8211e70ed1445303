import java.util.Objects;

/** What the tests share: texts onto the tape, and answers laid beside those that are due. */
final class Kit {
    static int looked = 0;
    static int wrong = 0;

    private Kit() {
    }

    static void due(String call, long got, long want) {
        looked++;
        if (got != want) {
            wrong++;
            System.out.println(call + " answered " + got + ", due is " + want);
        }
    }

    static void due(String call, boolean got, boolean want) {
        looked++;
        if (got != want) {
            wrong++;
            System.out.println(call + " answered " + got + ", due is " + want);
        }
    }

    static void due(String call, String got, String want) {
        looked++;
        if (!Objects.equals(got, want)) {
            wrong++;
            System.out.println(call + " answered " + got + ", due is " + want);
        }
    }

    /** The five ints of twenty bytes of a text from a place on; blanks behind its end. */
    static int[] five(String text, int from) {
        int[] five = new int[5];
        for (int i = 0; i < 20; i++) {
            int sign = from + i < text.length() ? text.charAt(from + i) : ' ';
            five[i / 4] = five[i / 4] << 8 | sign & 255;
        }
        return five;
    }

    /** Puts a text behind the tape, byte for byte. */
    static void write(SpreadRows x, String text) {
        for (int from = 0; from < text.length(); from += 20) {
            int[] f = five(text, from);
            x.feed(f[0], f[1], f[2], f[3], f[4]);
        }
        x.back((20 - text.length() % 20) % 20);
    }

    static int read(SpreadRows x, String text) {
        write(x, text);
        return x.read();
    }

    /** An object that has read a text, which must be without a FAULT. */
    static SpreadRows told(String text) {
        SpreadRows x = new SpreadRows();
        due("read of " + text, read(x, text), 0);
        return x;
    }

    static void end() {
        System.out.println(looked - wrong + " answers as due, " + wrong + " not");
        if (wrong != 0) System.exit(1);
    }
}
