import java.util.Random;

/**
 * All promises: long runs of calls, drawn by fixed seeds, must have the answers of the slow second building.
 * No object gets more than 512 calls: what later ones answer is free.
 */
public final class ModelTest {
    private static final int RUNS = 2500;
    private static final int CALLS = 512;
    private static final int CALLS_AT_ONCE = 30;
    private static final int LAST_LOOK = 120;
    private static final Check CHECK = new Check();

    private final Random draw;
    private final BreathOnLoan x = new BreathOnLoan();
    private final Model m = new Model();
    private final int run;
    private int call;

    private ModelTest(int run) {
        this.run = run;
        this.draw = new Random(run);
    }

    public static void main(String[] args) {
        int runs = args.length > 0 ? Integer.parseInt(args[0]) : RUNS;
        for (int run = 0; run < runs; run++) {
            new ModelTest(run).go();
        }
        for (int i = 0; i < 20 * runs; i++) {
            text(new Random(i));
        }
        CHECK.finish("ModelTest");
    }

    private void go() {
        int crew = draw.nextInt(7);
        for (int i = 0; i < crew; i++) {
            blower();
        }
        for (int i = draw.nextInt(7); i > 0; i--) {
            kind();
        }
        while (call < CALLS - LAST_LOOK - CALLS_AT_ONCE) {
            any();
        }
        everything();
    }

    private void same(String what, long got, long due) {
        CHECK.same("run " + run + ", call " + call + ": " + what, got, due);
        call++;
    }

    /** Mostly within the edges, sometimes far outside. */
    private int some(int low, int high) {
        int kind = draw.nextInt(40);
        if (kind == 0) {
            return new int[] {Integer.MIN_VALUE, Integer.MAX_VALUE, low - 1, high + 1, -1, -2, -1000000}[draw.nextInt(7)];
        }
        return low + draw.nextInt(high - low + 1);
    }

    private void blower() {
        int lungs = some(1, 9);
        int voice = some(0, 3);
        int beads = some(0, 999);
        same("blower", x.blower(lungs, voice, beads), m.blower(lungs, voice, beads));
    }

    private void kind() {
        int want = some(1, draw.nextBoolean() ? 30 : 9);
        int voices = draw.nextInt(3) == 0 ? some(0, 15) : 1 << draw.nextInt(4) & 15;
        int worth = some(0, draw.nextBoolean() ? 999 : 60);
        same("kind", x.kind(want, voices, worth), m.kind(want, voices, worth));
    }

    private void read(String text) {
        same("end", x.end(0), m.end(0));
        for (int at = 0; at < text.length(); at += 20) {
            int[] w = new int[5];
            for (int i = 0; i < 5; i++) {
                w[i] = Check.word(text, at + 4 * i);
            }
            same("feed", x.feed(w[0], w[1], w[2], w[3], w[4]), m.feed(w));
        }
        same("end", x.end(text.length()), m.end(text.length()));
        same("text '" + text + "'", x.text(), m.text());
        same("fault of '" + text + "'", x.fault(0), m.fault(0));
        same("place in '" + text + "'", x.fault(1), m.fault(1));
    }

    private void any() {
        int pick = draw.nextInt(100);
        if (pick < 34) {
            int p = some(0, Math.max(0, m.about(2) - 1));
            int b = some(0, Math.max(0, m.about(0) - 1));
            int n = some(1, draw.nextBoolean() ? 4 : 9);
            if (draw.nextBoolean()) {
                int due = m.about(20 + m.piece(p, 0)) / 100 - m.piece(p, 2);
                n = due >= 1 && due <= 9 ? due : n;
            }
            same("blow", x.blow(p, b, n), m.blow(p, b, n));
        } else if (pick < 42) {
            int k = some(0, Math.max(0, m.about(1) - 1));
            same("begin", x.begin(k), m.begin(k));
        } else if (pick < 52) {
            int hours = draw.nextInt(30) == 0 ? some(1, 99) : some(1, 2);
            same("later", x.later(hours), m.later(hours));
        } else if (pick < 58) {
            int p = some(0, Math.max(0, m.about(2) - 1));
            same("sell", x.sell(p), m.sell(p));
        } else if (pick < 66) {
            same("undo", x.undo(), m.undo());
        } else {
            seldom(pick);
        }
    }

    private void seldom(int pick) {
        switch (pick) {
            case 66 -> blower();
            case 67 -> kind();
            case 68, 69 -> {
                int a = some(0, 5);
                int b = some(0, 5);
                boolean is = draw.nextBoolean();
                same("quarrel", x.quarrel(a, b, is) ? 1 : 0, m.quarrel(a, b, is) ? 1 : 0);
            }
            case 70, 71 -> read(new TextDraw(draw).text());
            case 72, 73 -> {
                int t = some(-1, 3);
                same("by", x.by(t) ? 1 : 0, m.by(t) ? 1 : 0);
            }
            case 74, 75 -> {
                int t = some(0, 3);
                same("played", x.played(t), m.played(t));
            }
            case 76, 77 -> {
                int kinds = some(0, (1 << m.about(1)) - 1);
                if (m.about(0) > 4 && kinds > 0 && draw.nextInt(8) > 0) {
                    kinds &= 1 << draw.nextInt(6) | 1 << draw.nextInt(6);
                }
                int end = some(1, 24);
                for (int what = -3; what < 5; what++) {
                    same("plan(" + kinds + ", " + end + ", " + what + ")", x.plan(kinds, end, what), m.plan(kinds, end, what));
                }
            }
            case 78, 79 -> {
                int breaths = some(draw.nextInt(4) - 1, draw.nextBoolean() ? 9 : 40);
                same("seen", x.seen(breaths), m.seen(breaths));
            }
            case 80, 81, 82 -> {
                int b = some(0, 5);
                int p = some(0, 9);
                int n = some(1, 3);
                int hour = draw.nextInt(4) == 0 ? some(0, 999) : some(0, Math.max(0, m.about(3)));
                same("tell", x.tell(b, p, n, hour), m.tell(b, p, n, hour));
            }
            case 83 -> {
                int seed = some(0, 9999);
                int n = some(1, 30);
                int c = some(1, 10);
                int b = some(0, 5);
                same("coughs", x.coughs(seed, n, c, b), m.coughs(seed, n, c, b));
            }
            case 84 -> same("image", x.image(), m.image());
            case 85 -> same("back", x.back(), m.back());
            default -> look();
        }
    }

    private void look() {
        int i = some(-2, 11);
        int what = some(-2, 31);
        int hour = some(0, 999);
        int set = draw.nextInt(4) > 0 ? done() & draw.nextInt(1024) : some(0, (1 << m.about(2)) - 1);
        same("of", x.of(i, what % 6), m.of(i, what % 6));
        same("piece", x.piece(i, what), m.piece(i, what));
        same("bubble", x.bubble(i, what % 5), m.bubble(i, what % 5));
        same("about", x.about(what), m.about(what));
        same("smoke", x.smoke(hour), m.smoke(hour));
        same("cost", x.cost(i, hour), m.cost(i, hour));
        same("odds", x.odds(set, what % 3), m.odds(set, what % 3));
        same("whose", x.whose(i), m.whose(i));
        same("fault", x.fault(what % 3), m.fault(what % 3));
        same("liars", x.liars(), m.liars());
    }

    /** Some of all that can be asked, as many as there are calls left. */
    private void everything() {
        while (call < CALLS) {
            int what = draw.nextInt(27) - 1;
            int p = draw.nextInt(m.about(2) + 1);
            int b = draw.nextInt(m.about(0) + 1);
            int i = draw.nextInt(m.bubble(-1, 0) + 1);
            int done = done() & draw.nextInt(1024);
            switch (draw.nextInt(8)) {
                case 0 -> same("about(" + what + ")", x.about(what), m.about(what));
                case 1 -> same("piece(" + p + ", " + what + ")", x.piece(p, what), m.piece(p, what));
                case 2 -> same("of(" + b + ", " + what % 6 + ")", x.of(b, what % 6), m.of(b, what % 6));
                case 3 -> same("bubble(" + i + ", " + what % 5 + ")", x.bubble(i, what % 5), m.bubble(i, what % 5));
                case 4 -> same("whose(" + what + ")", x.whose(what), m.whose(what));
                case 5 -> same("upper of " + done, x.odds(done, 0), m.odds(done, 0));
                case 6 -> same("lower of " + done, x.odds(done, 1), m.odds(done, 1));
                default -> same("undo", x.undo(), m.undo());
            }
        }
    }

    private int done() {
        int set = 0;
        for (int p = 0; p < 10; p++) {
            set |= m.piece(p, 1) == 1 ? 1 << p : 0;
        }
        return set;
    }

    /** A text alone: its fault, and what its laws come to. */
    private static void text(Random draw) {
        ModelTest t = new ModelTest(1000000);
        t.read(new TextDraw(draw).text());
        t.x.blower(3, 2, 77);
        t.m.blower(3, 2, 77);
        t.x.by(0);
        t.m.by(0);
        for (int hour = 0; hour < 1000; hour = 3 * hour + 1) {
            t.same("smoke", t.x.smoke(hour), t.m.smoke(hour));
            t.same("cost", t.x.cost(0, hour), t.m.cost(0, hour));
        }
    }
}
