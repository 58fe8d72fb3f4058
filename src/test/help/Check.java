import java.nio.charset.StandardCharsets;

/** What the tests by sentence share: how an answer is held against the one due, how a text is told. */
final class Check {
    static final int BAD = -1, STATE = -2, FULL = -3, NONE = -4;
    static final int LOW = Integer.MIN_VALUE, HIGH = Integer.MAX_VALUE;

    private static String sentence = "";
    private static int asked = 0;
    private static int wrong = 0;

    private Check() { }

    interface Make {
        SilenceCoin make();
    }

    interface Call {
        int on(SilenceCoin x);
    }

    interface NumberCall {
        int on(SilenceCoin x, int v);
    }

    /** The sentence of the document that the answers from here on are due by. */
    static void says(String words) {
        sentence = words;
    }

    static void due(String call, long got, long want) {
        asked++;
        if (got != want) {
            wrong++;
            System.out.println("[" + sentence + "] " + call + " answered " + got + ", due is " + want);
        }
    }

    static void same(String call, String got, String want) {
        asked++;
        if (!got.equals(want)) {
            wrong++;
            System.out.println("[" + sentence + "] " + call + ": what there is has changed");
            System.out.println("  was " + want);
            System.out.println("  is  " + got);
        }
    }

    /** From low to high a number is taken; beside it, far from it, and where bits would wrap, it is BAD. */
    static void bounds(String call, Make make, int low, int high, NumberCall of) {
        for (int v = low; v <= high; v++) {
            due(call + " of " + v + " is BAD", of.on(make.make(), v) == BAD ? 1 : 0, 0);
        }
        for (int v : outside(low, high)) {
            due(call + " of " + v, of.on(make.make(), v), BAD);
        }
    }

    /** Numbers beside low .. high, the ends of all ints, and such that are inside when shifted or cut to few bits. */
    static int[] outside(int low, int high) {
        int[] all = {low - 1, high + 1, LOW, LOW + 1, HIGH, HIGH - 1, low - 2, high + 2, low + 32, high - 32, low + 64,
            low + 128, low + 256, high - 256, low + 65536, high - 65536, LOW + low, LOW + high};
        return java.util.Arrays.stream(all).filter(v -> v < low || v > high).distinct().toArray();
    }

    /** Puts a text on the tape; blanks fill the last eight bytes and are cut off again. */
    static void put(SilenceCoin x, String text) {
        byte[] bytes = text.getBytes(StandardCharsets.ISO_8859_1);
        int before = x.count(4);
        for (int i = 0; i < bytes.length; i += 8) {
            long v = 0;
            for (int j = i; j < i + 8; j++) {
                v = v << 8 | (j < bytes.length ? bytes[j] & 255 : 32);
            }
            x.feed(v);
        }
        int had = x.end(before + bytes.length);
        if (had < 0) {
            due("the tape for " + text, had, before + bytes.length);
        }
    }

    /** A new object that a text has been told to; the text has to be taken. */
    static SilenceCoin of(String text) {
        SilenceCoin x = new SilenceCoin();
        put(x, text);
        int answer = x.text();
        if (answer < 0) {
            due("text of " + text, answer, 0);
        }
        return x;
    }

    static String many(String line, int n) {
        return line.repeat(n);
    }

    static void close() {
        System.out.println(asked + " answers asked, " + wrong + " not as due");
        if (wrong != 0) {
            System.exit(1);
        }
    }
}
