import java.util.List;
import java.util.function.Supplier;
import java.util.function.ToLongFunction;

/** Counts answers that are not as due, and gives texts to an object. */
final class Check {
    /** Far outside of what any number of any call may be; as sets they have no blower, kind or piece alone. */
    private static final int[] FAR = {Integer.MIN_VALUE, Integer.MIN_VALUE + 1, -65535, 65537, Integer.MAX_VALUE - 1, Integer.MAX_VALUE};

    /** A call with one number left open. */
    interface Call {
        long on(BreathOnLoan x, int number);
    }

    private final Document document = new Document();
    private String sentence = "";
    private int calls;
    private int wrong;

    /** What follows tests a sentence of a promise, or (0) of the Terms. */
    void says(int promise, String words) {
        document.quote(promise, words);
        sentence = "promise " + promise + " (" + words + "): ";
    }

    void same(String what, long got, long due) {
        calls++;
        if (got != due) {
            wrong++;
            System.out.println(sentence + what + " answered " + got + ", due is " + due);
        }
    }

    void yes(String what, boolean got) {
        same(what, got ? 1 : 0, 1);
    }

    void no(String what, boolean got) {
        same(what, got ? 1 : 0, 0);
    }

    /** The call answers what is due, and all that can be seen is as if it had not been made. */
    void leaves(String what, Supplier<BreathOnLoan> scene, ToLongFunction<BreathOnLoan> call, long due) {
        for (Look look : Look.values()) {
            BreathOnLoan x = scene.get();
            same(what, call.applyAsLong(x), due);
            List<String> seen = look.at(x);
            List<String> dueSeen = look.at(scene.get());
            if (!seen.equals(dueSeen)) {
                seen.removeAll(dueSeen);
                no(what + " changed " + look + ": " + seen, true);
            }
        }
    }

    /** The call is refused for these numbers and for those that are far outside, and leaves all as it was. */
    void refuses(String what, Supplier<BreathOnLoan> scene, Call call, long due, int... numbers) {
        for (int number : numbers) {
            leaves(what + " of " + number, scene, x -> call.on(x, number), due);
        }
        for (int number : FAR) {
            leaves(what + " of " + number, scene, x -> call.on(x, number), due);
        }
    }

    /** A text, read by a new object, has this fault at this place (0 and NONE: none). */
    void fault(String text, int due, int place) {
        BreathOnLoan x = new BreathOnLoan();
        same("text '" + text + "'", read(x, text), due == 0 ? 0 : -1);
        same("fault of '" + text + "'", x.fault(0), due);
        same("place in '" + text + "'", x.fault(1), place);
    }

    /** A sum in hour 7, which smoke cuts to 0 .. 40. */
    void sum(String sum, int due) {
        same(sum, ruledBy("smoke " + sum + ";").smoke(7), due);
    }

    void tellUnquoted() {
        for (String words : document.unquoted()) {
            System.out.println("no test quotes: " + words);
        }
    }

    void finish(String test) {
        System.out.println(test + ": " + calls + " answers, " + wrong + " wrong");
        if (wrong != 0 || calls == 0) {
            System.exit(1);
        }
    }

    /** Empties the tape and puts the text on it, byte by byte as given. */
    static void put(BreathOnLoan x, String text) {
        x.end(0);
        for (int at = 0; at < text.length(); at += 20) {
            x.feed(word(text, at), word(text, at + 4), word(text, at + 8), word(text, at + 12), word(text, at + 16));
        }
        x.end(text.length());
    }

    static int read(BreathOnLoan x, String text) {
        put(x, text);
        return x.text();
    }

    static int word(String text, int at) {
        int word = 0;
        for (int i = at; i < at + 4; i++) {
            word = word << 8 | (i < text.length() ? text.charAt(i) & 255 : 0);
        }
        return word;
    }

    static BreathOnLoan ruledBy(String text) {
        BreathOnLoan x = new BreathOnLoan();
        if (read(x, text) != 0 || !x.by(0)) {
            System.out.println("could not be read: " + text + " (fault " + x.fault(0) + " at " + x.fault(1) + ")");
            System.exit(1);
        }
        return x;
    }
}
