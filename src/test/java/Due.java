import java.nio.charset.StandardCharsets;

/** Counts the answers that are not the ones due, and tells texts to objects. */
final class Due {
    private final String test;
    private int asked = 0;
    private int wrong = 0;

    Due(String test) {
        this.test = test;
    }

    void is(String call, long got, long want) {
        asked++;
        if (got != want) {
            wrong++;
            System.out.println(test + ": " + call + " answered " + got + ", due is " + want);
        }
    }

    /** Ends the program, with exit code 1 if an answer was wrong. */
    void close() {
        System.out.println(test + ": " + asked + " answers, " + wrong + " not as due");
        System.exit(wrong == 0 ? 0 : 1);
    }

    /** Puts a text on the tape in place of what is there. */
    static void feedText(MoatRanks x, String text) {
        x.end(0);
        byte[] bytes = text.getBytes(StandardCharsets.ISO_8859_1);
        for (int at = 0; at < bytes.length; at += 20) {
            x.feed(four(bytes, at), four(bytes, at + 4), four(bytes, at + 8), four(bytes, at + 12), four(bytes, at + 16));
        }
        x.end(bytes.length);
    }

    static int four(byte[] bytes, int at) {
        int number = 0;
        for (int i = at; i < at + 4; i++) {
            number = number << 8 | (i < bytes.length ? bytes[i] & 255 : 32);
        }
        return number;
    }

    /** A new object with a DUKEDOM told. */
    static MoatRanks told(String text) {
        MoatRanks x = new MoatRanks();
        feedText(x, text);
        if (x.dukedom() < 0) {
            throw new IllegalStateException("not a text: fault " + x.fault(0) + " at " + x.fault(1) + " in " + text);
        }
        return x;
    }
}
