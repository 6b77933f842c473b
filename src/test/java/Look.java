import java.util.ArrayList;
import java.util.List;

/** What can be seen of an object; each look stays well below the document's 512 calls. */
enum Look {
    /** What the asking calls tell. */
    NEAR {
        @Override
        List<String> at(BreathOnLoan x) {
            return near(x);
        }
    },
    /** What is on the tape: it is read. */
    TAPE {
        @Override
        List<String> at(BreathOnLoan x) {
            return tape(x);
        }
    },
    /** What the steps were: all are taken back. */
    STEPS {
        @Override
        List<String> at(BreathOnLoan x) {
            return steps(x);
        }
    },
    /** What the image is: it is gone back to. */
    IMAGE {
        @Override
        List<String> at(BreathOnLoan x) {
            List<String> seen = new ArrayList<>();
            seen.add("back " + x.back());
            seen.addAll(near(x));
            seen.addAll(tape(x));
            return seen;
        }
    };

    private static final int MOST_BUBBLES = 6;

    abstract List<String> at(BreathOnLoan x);

    private static List<String> near(BreathOnLoan x) {
        List<String> seen = new ArrayList<>();
        for (int what = 0; what < 26; what++) {
            seen.add("about " + what + " " + x.about(what));
        }
        int blowers = x.about(0);
        int pieces = x.about(2);
        for (int b = 0; b < blowers; b++) {
            for (int what = 0; what < 5; what++) {
                seen.add("of " + b + " " + what + " " + x.of(b, what));
            }
            seen.add("cost " + b + " " + x.cost(b, 1));
        }
        for (int p = 0; p < pieces; p++) {
            for (int what = 0; what < 10 + blowers; what += what == 3 ? 7 : 1) {
                seen.add("piece " + p + " " + what + " " + x.piece(p, what));
            }
            seen.add("odds " + p + " " + x.odds(1 << p, 0));
        }
        int bubbles = x.bubble(-1, 0);
        for (int i = 0; i < bubbles; i += bubbles > MOST_BUBBLES && i == 2 ? bubbles - MOST_BUBBLES + 1 : 1) {
            for (int what = 0; what < 4; what++) {
                seen.add("bubble " + i + " " + what + " " + x.bubble(i, what));
            }
        }
        seen.add("bubbles " + bubbles);
        seen.add("fault " + x.fault(0) + " at " + x.fault(1));
        seen.add("smoke " + x.smoke(1));
        seen.add("liars " + x.liars());
        seen.add("whose " + x.whose(-1) + " " + x.whose(0));
        return seen;
    }

    private static List<String> tape(BreathOnLoan x) {
        List<String> seen = new ArrayList<>();
        int text = x.text();
        seen.add("text " + text + ", fault " + x.fault(0) + " at " + x.fault(1) + ", tape " + x.about(9));
        seen.add("by " + x.by(text) + ", smoke " + x.smoke(1) + " and " + x.smoke(2));
        return seen;
    }

    private static List<String> steps(BreathOnLoan x) {
        List<String> seen = new ArrayList<>();
        int blowers = x.about(0);
        for (int turn = 0; turn < 31; turn++) {
            seen.add("undo " + x.undo() + ", pieces " + x.about(2) + ", hour " + x.about(3) + ", bubbles " + x.bubble(-1, 0));
            for (int b = 0; b < blowers; b++) {
                seen.add("beads " + x.of(b, 2));
            }
        }
        return seen;
    }
}
