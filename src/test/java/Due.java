import java.nio.charset.StandardCharsets;

/** Counts the answers that are not the ones due, and tells texts to objects. */
final class Due {
    private final String test;
    private int asked = 0;
    private int wrong = 0;
    private String sentence = "";

    Due(String test) {
        this.test = test;
    }

    /**
     * What is asked from here on is what the document says at a place (a promise's number, a term's number, TEXT for
     * the text block, or USE for what stands ahead of the face) by these words. SentencesTest looks whether it does, and whether words are left over.
     */
    void says(String place, String words) {
        sentence = " [" + place + ": " + words + "]";
    }

    void is(String call, long got, long want) {
        asked++;
        if (got != want) {
            wrong++;
            System.out.println(test + ": " + call + " answered " + got + ", due is " + want + sentence);
        }
    }

    /** The text has a fault where ^ stands (which is not in it). */
    void faultAt(String marked, int fault) {
        int place = marked.indexOf('^');
        MoatRanks x = new MoatRanks();
        feedText(x, marked.substring(0, place) + marked.substring(place + 1));
        is(marked, x.dukedom(), -4);
        is("fault of " + marked, x.fault(0), fault);
        is("place of " + marked, x.fault(1), place);
        is("no dukedom by " + marked, x.count(9), 0);
    }

    /** The text has no fault, and so many lines. */
    MoatRanks reads(String text, int lines) {
        MoatRanks x = new MoatRanks();
        feedText(x, text);
        is(text, x.dukedom(), lines);
        is("fault of " + text, x.fault(0), 0);
        is("place of " + text, x.fault(1), -1);
        is("lines of " + text, x.count(9), lines);
        return x;
    }

    /** Ends the program, with exit code 1 if an answer was wrong. */
    void close() {
        System.out.println(test + ": " + asked + " answers, " + wrong + " not as due");
        System.exit(wrong == 0 ? 0 : 1);
    }

    /** Puts a text on the tape in place of what is there. */
    static void feedText(MoatRanks x, String text) {
        x.end(0);
        byte[] bytes = text.getBytes(StandardCharsets.ISO_8859_1);
        for (int at = 0; at < bytes.length; at += 20) {
            x.feed(four(bytes, at), four(bytes, at + 4), four(bytes, at + 8), four(bytes, at + 12), four(bytes, at + 16));
        }
        x.end(bytes.length);
    }

    static int four(byte[] bytes, int at) {
        int number = 0;
        for (int i = at; i < at + 4; i++) {
            number = number << 8 | (i < bytes.length ? bytes[i] & 255 : 32);
        }
        return number;
    }

    /** A new object with a DUKEDOM told. */
    static MoatRanks told(String text) {
        MoatRanks x = new MoatRanks();
        feedText(x, text);
        if (x.dukedom() < 0) {
            throw new IllegalStateException("not a text: fault " + x.fault(0) + " at " + x.fault(1) + " in " + text);
        }
        return x;
    }
}
