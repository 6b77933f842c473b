/** Counts answers that are not as due, and gives texts to an object. */
final class Check {
    private int calls;
    private int wrong;

    void same(String what, long got, long due) {
        calls++;
        if (got != due) {
            wrong++;
            System.out.println(what + " answered " + got + ", due is " + due);
        }
    }

    void yes(String what, boolean got) {
        same(what, got ? 1 : 0, 1);
    }

    void no(String what, boolean got) {
        same(what, got ? 1 : 0, 0);
    }

    void finish(String test) {
        System.out.println(test + ": " + calls + " answers, " + wrong + " wrong");
        if (wrong != 0 || calls == 0) {
            System.exit(1);
        }
    }

    /** Empties the tape and puts the text on it, byte by byte as given. */
    static void put(BreathOnLoan x, String text) {
        x.end(0);
        for (int at = 0; at < text.length(); at += 20) {
            x.feed(word(text, at), word(text, at + 4), word(text, at + 8), word(text, at + 12), word(text, at + 16));
        }
        x.end(text.length());
    }

    static int read(BreathOnLoan x, String text) {
        put(x, text);
        return x.text();
    }

    static int word(String text, int at) {
        int word = 0;
        for (int i = at; i < at + 4; i++) {
            word = word << 8 | (i < text.length() ? text.charAt(i) & 255 : 0);
        }
        return word;
    }

    static BreathOnLoan ruledBy(String text) {
        BreathOnLoan x = new BreathOnLoan();
        if (read(x, text) != 0 || !x.by(0)) {
            System.out.println("could not be read: " + text + " (fault " + x.fault(0) + " at " + x.fault(1) + ")");
            System.exit(1);
        }
        return x;
    }
}
