/** Counts answers that are not as due, and knows how to feed a text. */
final class Check {
    private int wrong;
    private int asked;

    void due(String what, long got, long want) {
        asked++;
        if (got != want) {
            wrong++;
            System.out.println(what + " answered " + got + ", due is " + want);
        }
    }

    void due(String what, boolean got, boolean want) {
        due(what, got ? 1 : 0, want ? 1 : 0);
    }

    /** An answer together with the TROUBLE behind it. */
    void due(String what, long got, long want, LotLedger x, int trouble) {
        due(what, got, want);
        due(what + ", trouble()", x.trouble(), trouble);
    }

    void end() {
        System.out.println(wrong == 0 ? asked + " answers are as due" : wrong + " answers are not as due");
        if (wrong != 0) {
            System.exit(1);
        }
    }

    static int word(String text, int at) {
        int word = 0;
        for (int i = 0; i < 4; i++) {
            word = word << 8 | (at + i < text.length() ? text.charAt(at + i) & 255 : 32);
        }
        return word;
    }

    static void feed(LotLedger x, String text) {
        for (int at = 0; at < text.length(); at += 20) {
            x.feed(word(text, at), word(text, at + 4), word(text, at + 8), word(text, at + 12), word(text, at + 16));
        }
    }

    static int read(LotLedger x, String text) {
        feed(x, text);
        return x.ledger(text.length());
    }

    static LotLedger of(String text) {
        LotLedger x = new LotLedger();
        if (read(x, text) < 0) {
            throw new IllegalStateException(text + ": fault " + x.fault() + " at " + x.where());
        }
        return x;
    }

    static int led(LotLedger x, int i) {
        try {
            return x.led(i);
        } catch (java.util.NoSuchElementException e) {
            return -99;
        }
    }
}
