import java.util.Arrays;

/**
 * Glass blowers of one furnace who share its breaths, as ../shared/DOC.md promises it.
 * The public methods stand in the order of the promises; the parts they work on are the classes below.
 */
public final class BreathOnLoan {

    public static final int NONE = -1;

    private static final int OTHER = -2;
    private static final int NO_PLAN = -1000000;

    private static final int MOST_BLOWERS = 6;
    private static final int MOST_KINDS = 6;
    private static final int MOST_PIECES = 10;
    private static final int MOST_BUBBLES = 40;
    private static final int MOST_STEPS = 30;
    private static final int MOST_TEXTS = 4;
    private static final int MOST_CLAUSES = 24;
    private static final int MOST_OPEN = 8;
    private static final int MOST_SEEN = 8;
    private static final int MOST_TOLD = 20;
    private static final int MOST_BEADS = 999;
    private static final int MOST_WORTH = 999;
    private static final int MOST_SMOKE = 40;
    private static final int LAST_HOUR = 999;
    private static final int TAPE_BYTES = 300;
    private static final int ROOF = 1000000;

    private static final int BLOWN = 0;
    private static final int DONE = 1;
    private static final int BELL = 2;

    private static final int STEP_BEGIN = 0;
    private static final int STEP_BUBBLE = 1;
    private static final int STEP_HOUR = 2;
    private static final int STEP_SALE = 3;

    // Tokens: the signs by their place in SIGNS, the two of two bytes, and the words by their place in WORDS.
    private static final String SIGNS = "<>=#+-*/();?:";
    private static final int LESS = 0;
    private static final int MORE = 1;
    private static final int SAME = 2;
    private static final int UNLIKE = 3;
    private static final int PLUS = 4;
    private static final int MINUS = 5;
    private static final int TIMES = 6;
    private static final int OVER = 7;
    private static final int OPEN = 8;
    private static final int CLOSE = 9;
    private static final int SEMICOLON = 10;
    private static final int QUESTION = 11;
    private static final int COLON = 12;
    private static final int NOT_MORE = 13;
    private static final int NOT_LESS = 14;
    private static final int NUMBER = 15;
    private static final int TAPE_END = 16;
    private static final int NO_TOKEN = 17;
    private static final String WORDS =
            "smoke cost brittle share begin blow wait by give if end or and not hour blower lungs voice beads kind want worth breaths quarrels many";
    private static final int FIRST_WORD = 32;
    private static final int LAW_WORDS = FIRST_WORD;
    private static final int BEGIN = FIRST_WORD + 4;
    private static final int BLOW = FIRST_WORD + 5;
    private static final int WAIT = FIRST_WORD + 6;
    private static final int BY = FIRST_WORD + 7;
    private static final int GIVE = FIRST_WORD + 8;
    private static final int IF = FIRST_WORD + 9;
    private static final int END = FIRST_WORD + 10;
    private static final int OR = FIRST_WORD + 11;
    private static final int AND = FIRST_WORD + 12;
    private static final int NOT = FIRST_WORD + 13;
    private static final int FIRST_NAME = FIRST_WORD + 14;

    private static final int SMOKE_LAW = 0;
    private static final int COST_LAW = 1;
    private static final int BRITTLE_LAW = 2;
    private static final int SHARE_LAW = 3;
    private static final int LAWS = 4;

    // The names in the order of WORDS, and as bits those that each law may use.
    private static final int HOUR_NAME = 0;
    private static final int BLOWER_NAME = 1;
    private static final int LUNGS_NAME = 2;
    private static final int VOICE_NAME = 3;
    private static final int BEADS_NAME = 4;
    private static final int KIND_NAME = 5;
    private static final int WANT_NAME = 6;
    private static final int WORTH_NAME = 7;
    private static final int BREATHS_NAME = 8;
    private static final int QUARRELS_NAME = 9;
    private static final int MANY_NAME = 10;
    private static final int NAMES = 11;
    private static final int[] NAMES_OF_LAW = {0b00000000001, 0b00000011111, 0b11011100001, 0b00111111111};

    // Orders of a worked-out law: an operator is its own token; these have no token of their own.
    private static final int PUT_NUMBER = 60;
    private static final int PUT_NAME = 61;
    private static final int LEAP = 62;
    private static final int LEAP_IF_NOT = 63;
    private static final int NEGATE = 64;
    private static final int ORDER_BITS = 7;

    private final State now;
    private final State kept;
    private final Tape tape;
    private final Parser parser;
    private final Judge judge;
    private final Planner planner;
    private final int[] shares;

    public BreathOnLoan() {
        now = new State();
        kept = new State();
        tape = new Tape();
        parser = new Parser(tape);
        judge = new Judge();
        planner = new Planner();
        shares = new int[MOST_BLOWERS];
    }

    public int blower(int lungs, int voice, int beads) {
        if (!within(lungs, 1, 9) || !within(voice, 0, 3) || !within(beads, 0, MOST_BEADS)) {
            return NONE;
        }
        return now.crew.join(lungs, voice, beads);
    }

    public boolean quarrel(int one, int other, boolean is) {
        if (one == other || !now.crew.has(one) || !now.crew.has(other)) {
            return false;
        }
        now.crew.setFoes(one, other, is);
        return true;
    }

    public int kind(int want, int voices, int worth) {
        if (!within(want, 1, 30) || !within(voices, 0, 15) || !within(worth, 0, MOST_WORTH)) {
            return NONE;
        }
        return now.wares.add(want, voices, worth);
    }

    public int feed(int a, int b, int c, int d, int e) {
        if (tape.length + 20 > TAPE_BYTES) {
            return NONE;
        }
        tape.addFour(a);
        tape.addFour(b);
        tape.addFour(c);
        tape.addFour(d);
        tape.addFour(e);
        return tape.length;
    }

    public int end(int n) {
        if (!within(n, 0, tape.length)) {
            return NONE;
        }
        tape.length = n;
        return n;
    }

    public int text() {
        if (now.textCount >= MOST_TEXTS) {
            return NONE;
        }
        Text read = parser.parse();
        tape.length = 0;
        return read == null ? NONE : now.addText(read);
    }

    public int fault(int what) {
        if (!parser.hasRead) {
            return NONE;
        }
        switch (what) {
            case 0: return parser.faultNumber;
            case 1: return parser.faultPlace;
            default: return NONE;
        }
    }

    public boolean by(int text) {
        if (text != NONE && now.textAt(text) == null) {
            return false;
        }
        now.ruling = text;
        return true;
    }

    public int smoke(int hour) {
        return within(hour, 0, LAST_HOUR) ? judge.smokeIn(now, hour) : NONE;
    }

    public int cost(int blower, int hour) {
        if (!now.crew.has(blower) || !within(hour, 0, LAST_HOUR)) {
            return NONE;
        }
        return judge.costOf(now, blower, hour);
    }

    public int begin(int kind) {
        return startPiece(kind);
    }

    public int blow(int piece, int blower, int n) {
        return addBubble(piece, blower, n);
    }

    public int later(int hours) {
        return passHours(hours);
    }

    public int sell(int piece) {
        if (now.stateOf(piece) != DONE || now.bench.sold[piece] != 0) {
            return NONE;
        }
        return payOut(piece, addShares(piece));
    }

    public int played(int text) {
        Text script = now.textAt(text);
        if (script == null) {
            return OTHER;
        }
        for (int i = 0; i < script.clauses(); i++) {
            if (!perform(script, i)) {
                return i;
            }
        }
        return NONE;
    }

    public int undo() {
        int row = now.steps.pop();
        if (row < 0) {
            return NONE;
        }
        takeBack(row);
        return now.steps.count;
    }

    public int of(int blower, int what) {
        Crew crew = now.crew;
        if (!crew.has(blower)) {
            return NONE;
        }
        switch (what) {
            case 0: return crew.lungs[blower];
            case 1: return crew.voice[blower];
            case 2: return crew.beads[blower];
            case 3: return now.bench.sum(NONE, blower, now.bench.hour);
            case 4: return crew.foes[blower];
            default: return NONE;
        }
    }

    public int piece(int piece, int what) {
        Bench bench = now.bench;
        if (!bench.has(piece)) {
            return NONE;
        }
        switch (what) {
            case 0: return bench.kindOf[piece];
            case 1: return now.stateOf(piece);
            case 2: return bench.sum(piece, NONE, NONE);
            case 3: return bench.sold[piece];
            default: return what >= 10 && now.crew.has(what - 10) ? bench.sum(piece, what - 10, NONE) : NONE;
        }
    }

    public int bubble(int i, int what) {
        if (i == NONE) {
            return now.bench.bubbles;
        }
        if (!within(i, 0, now.bench.bubbles - 1) || !within(what, 0, 3)) {
            return NONE;
        }
        return now.bench.log[4 * i + what];
    }

    public long odds(int pieces, int what) {
        if (!within(what, 0, 1) || pieces < 0 || pieces >= 1 << now.bench.pieces) {
            return NONE;
        }
        long upper = 1;
        long lower = 1;
        for (int p = 0; p < now.bench.pieces; p++) {
            if ((pieces >> p & 1) != 0) {
                if (now.stateOf(p) != DONE) {
                    return NONE;
                }
                upper *= 10 - judge.brittleOf(now, p);
                lower *= 10;
            }
        }
        long common = commonDivisor(upper, lower);
        return (what == 0 ? upper : lower) / Math.max(1, common);
    }

    public int plan(int kinds, int end, int what) {
        if (kinds < 0 || kinds >= 1 << now.wares.count || Integer.bitCount(kinds) > Planner.MOST_WORKS
                || !within(end, 1, Planner.MOST_HOURS)) {
            return NO_PLAN;
        }
        planner.lookAhead(now, judge, end);
        planner.choose(now, kinds);
        return planner.answer(what);
    }

    public int seen(int breaths) {
        return now.talk.see(breaths);
    }

    public int whose(int i) {
        int sets = 0;
        for (int set = 1; set < 1 << now.crew.count; set++) {
            if (canHaveBlown(set)) {
                if (sets == i) {
                    return set;
                }
                sets++;
            }
        }
        return i == NONE ? sets : NONE;
    }

    public int tell(int blower, int piece, int n, int hour) {
        if (!now.crew.has(blower) || !within(piece, 0, MOST_PIECES - 1) || !within(n, 1, 9)
                || !within(hour, 0, LAST_HOUR)) {
            return NONE;
        }
        return now.talk.hear(piece, blower, n, hour);
    }

    public int liars() {
        Talk talk = now.talk;
        int bits = 0;
        for (int i = 0; i < talk.toldCount; i++) {
            int piece = talk.told[4 * i];
            int blower = talk.told[4 * i + 1];
            int hour = talk.told[4 * i + 3];
            if (talk.toldSum(piece, blower, hour) > now.bench.sum(piece, blower, hour)) {
                bits |= 1 << blower;
            }
        }
        return bits;
    }

    public int coughs(int seed, int n, int c, int blower) {
        if (!within(seed, 0, 9999) || !within(n, 1, 30) || !within(c, 1, 10) || !now.crew.has(blower)) {
            return NONE;
        }
        int x = seed * 7 + 5;
        int lost = 0;
        for (int hour = 0; hour < n; hour++) {
            for (int b = 0; b < now.crew.count; b++) {
                if (b == blower && x % 10 < c) {
                    lost++;
                }
                x = (x * 181 + 37) % 30103;
            }
        }
        return lost;
    }

    public int image() {
        kept.takeFrom(now);
        return now.bench.hour;
    }

    public int back() {
        now.takeFrom(kept);
        return now.bench.hour;
    }

    public int about(int what) {
        switch (what) {
            case 0: return now.crew.count;
            case 1: return now.wares.count;
            case 2: return now.bench.pieces;
            case 3: return now.bench.hour;
            case 4: return now.textCount;
            case 5: return now.ruling;
            case 6: return now.steps.count;
            case 7: return now.talk.seenCount;
            case 8: return now.talk.toldCount;
            case 9: return tape.length;
            default: return aboutKind(what);
        }
    }

    private int aboutKind(int what) {
        Wares wares = now.wares;
        if (what >= 10 && wares.has(what - 10)) {
            return wares.worth[what - 10];
        }
        if (what >= 20 && wares.has(what - 20)) {
            return 100 * wares.want[what - 20] + wares.voices[what - 20];
        }
        return OTHER;
    }

    private int startPiece(int kind) {
        Bench bench = now.bench;
        if (!now.wares.has(kind) || bench.pieces >= MOST_PIECES) {
            return NONE;
        }
        int piece = bench.pieces;
        bench.kindOf[piece] = kind;
        bench.sold[piece] = 0;
        bench.pieces++;
        now.steps.push(STEP_BEGIN, piece);
        return piece;
    }

    private int addBubble(int piece, int blower, int n) {
        Bench bench = now.bench;
        if (now.stateOf(piece) != BLOWN || !now.crew.has(blower) || !within(n, 1, 9) || bench.bubbles >= MOST_BUBBLES) {
            return NONE;
        }
        int price = n * judge.costOf(now, blower, bench.hour);
        if (bench.sum(NONE, blower, bench.hour) + n > now.crew.lungs[blower]
                || bench.sum(NONE, NONE, bench.hour) + n > judge.smokeIn(now, bench.hour)
                || price > now.crew.beads[blower]) {
            return NONE;
        }
        bench.logBubble(piece, blower, n);
        int row = now.steps.push(STEP_BUBBLE, piece);
        giveBeads(row, blower, -price);
        return now.stateOf(piece);
    }

    /** Each step keeps what it did to the beads, so that it can be taken back. */
    private void giveBeads(int row, int blower, int beads) {
        now.crew.beads[blower] += beads;
        now.steps.rows[row + Steps.BEADS + blower] = beads;
    }

    private int passHours(int hours) {
        if (!within(hours, 1, 99) || now.bench.hour + hours > LAST_HOUR) {
            return NONE;
        }
        for (int i = 0; i < hours; i++) {
            now.bench.hour++;
            now.steps.push(STEP_HOUR, NONE);
        }
        return now.bench.hour;
    }

    private int addShares(int piece) {
        int all = 0;
        for (int b = 0; b < now.crew.count; b++) {
            shares[b] = now.bench.sum(piece, b, NONE) == 0 ? 0 : judge.shareOf(now, piece, b);
            all += shares[b];
        }
        return all;
    }

    private int payOut(int piece, int allShares) {
        int row = now.steps.push(STEP_SALE, piece);
        int worth = now.wares.worth[now.bench.kindOf[piece]];
        int paid = 0;
        for (int b = 0; b < now.crew.count && allShares > 0; b++) {
            int beads = Math.min(worth * shares[b] / allShares, MOST_BEADS - now.crew.beads[b]);
            giveBeads(row, b, beads);
            paid += beads;
        }
        now.bench.sold[piece] = 1;
        return paid;
    }

    /** Answers whether the clause could be. */
    private boolean perform(Text script, int clause) {
        switch (script.orderOf(clause, 0)) {
            case BEGIN:
                return startPiece(script.orderOf(clause, 1)) != NONE;
            case BLOW:
                return addBubble(script.orderOf(clause, 1), script.orderOf(clause, 2), script.orderOf(clause, 3)) != NONE;
            case WAIT:
                return passHours(script.orderOf(clause, 1)) != NONE;
            default:
                return true;
        }
    }

    private void takeBack(int row) {
        int[] rows = now.steps.rows;
        for (int b = 0; b < now.crew.count; b++) {
            now.crew.beads[b] -= rows[row + Steps.BEADS + b];
        }
        switch (rows[row]) {
            case STEP_BEGIN:
                now.bench.pieces--;
                break;
            case STEP_BUBBLE:
                now.bench.bubbles--;
                break;
            case STEP_HOUR:
                now.bench.hour--;
                break;
            default:
                if (now.bench.has(rows[row + Steps.PIECE])) {
                    now.bench.sold[rows[row + Steps.PIECE]] = 0;
                }
                break;
        }
    }

    /** The hour with the most seen decides: who is enough in it is enough in all, who is needed at all is needed in it. */
    private boolean canHaveBlown(int set) {
        int members = Integer.bitCount(set);
        if (members > 3 || now.talk.seenCount == 0) {
            return false;
        }
        int most = now.talk.mostSeen();
        int all = 0;
        int weakest = 9;
        for (int b = 0; b < now.crew.count; b++) {
            if ((set >> b & 1) != 0) {
                all += now.crew.lungs[b];
                weakest = Math.min(weakest, now.crew.lungs[b]);
            }
        }
        return all >= most && (members == 1 || all - weakest < most);
    }

    private static boolean within(int x, int low, int high) {
        return x >= low && x <= high;
    }

    private static int clamp(long x, int low, int high) {
        return (int) Math.max(low, Math.min(high, x));
    }

    private static long commonDivisor(long one, long other) {
        long a = one;
        long b = other;
        for (int turn = 0; turn < 100 && b != 0; turn++) {
            long rest = a % b;
            a = b;
            b = rest;
        }
        return a;
    }

    private static void copyRow(int[] from, int[] to) {
        System.arraycopy(from, 0, to, 0, Math.min(from.length, to.length));
    }

    /** The blowers, and as bits with whom each one quarrels. */
    private static final class Crew {
        int count;
        final int[] lungs = new int[MOST_BLOWERS];
        final int[] voice = new int[MOST_BLOWERS];
        final int[] beads = new int[MOST_BLOWERS];
        final int[] foes = new int[MOST_BLOWERS];

        boolean has(int b) {
            return b >= 0 && b < count;
        }

        int join(int breaths, int sound, int purse) {
            if (count >= MOST_BLOWERS) {
                return NONE;
            }
            lungs[count] = breaths;
            voice[count] = sound;
            beads[count] = purse;
            foes[count] = 0;
            count++;
            return count - 1;
        }

        void setFoes(int one, int other, boolean is) {
            if (has(one) && has(other)) {
                foes[one] = is ? foes[one] | 1 << other : foes[one] & ~(1 << other);
                foes[other] = is ? foes[other] | 1 << one : foes[other] & ~(1 << one);
            }
        }

        int voicesOf(int set) {
            int voices = 0;
            for (int b = 0; b < count; b++) {
                if ((set >> b & 1) != 0) {
                    voices |= 1 << voice[b];
                }
            }
            return voices;
        }

        int quarrelsIn(int set) {
            int twice = 0;
            for (int b = 0; b < count; b++) {
                if ((set >> b & 1) != 0) {
                    twice += Integer.bitCount(foes[b] & set);
                }
            }
            return twice / 2;
        }

        void takeFrom(Crew other) {
            count = other.count;
            copyRow(other.lungs, lungs);
            copyRow(other.voice, voice);
            copyRow(other.beads, beads);
            copyRow(other.foes, foes);
        }
    }

    /** The kinds of works. */
    private static final class Wares {
        int count;
        final int[] want = new int[MOST_KINDS];
        final int[] voices = new int[MOST_KINDS];
        final int[] worth = new int[MOST_KINDS];

        boolean has(int k) {
            return k >= 0 && k < count;
        }

        int add(int breaths, int sounds, int price) {
            if (count >= MOST_KINDS) {
                return NONE;
            }
            want[count] = breaths;
            voices[count] = sounds;
            worth[count] = price;
            count++;
            return count - 1;
        }

        void takeFrom(Wares other) {
            count = other.count;
            copyRow(other.want, want);
            copyRow(other.voices, voices);
            copyRow(other.worth, worth);
        }
    }

    /** The hour, the pieces and the log of bubbles; breaths are always counted from the log, so that a step back is short. */
    private static final class Bench {
        int hour;
        int pieces;
        final int[] kindOf = new int[MOST_PIECES];
        final int[] sold = new int[MOST_PIECES];
        int bubbles;
        final int[] log = new int[4 * MOST_BUBBLES];

        boolean has(int p) {
            return p >= 0 && p < pieces;
        }

        void logBubble(int p, int b, int n) {
            if (bubbles < MOST_BUBBLES) {
                log[4 * bubbles] = p;
                log[4 * bubbles + 1] = b;
                log[4 * bubbles + 2] = n;
                log[4 * bubbles + 3] = hour;
                bubbles++;
            }
        }

        /** The breaths of a piece, a blower and an hour; NONE stands for any. */
        int sum(int p, int b, int h) {
            return sumOfRows(log, bubbles, p, b, h);
        }

        int givers(int p) {
            int set = 0;
            for (int i = 0; i < bubbles; i++) {
                if (log[4 * i] == p) {
                    set |= 1 << log[4 * i + 1];
                }
            }
            return set;
        }

        void takeFrom(Bench other) {
            hour = other.hour;
            pieces = other.pieces;
            bubbles = other.bubbles;
            copyRow(other.kindOf, kindOf);
            copyRow(other.sold, sold);
            copyRow(other.log, log);
        }
    }

    /** Rows of PIECE, BLOWER, n, HOUR: n of all rows that fit, where NONE fits any. */
    private static int sumOfRows(int[] rows, int count, int p, int b, int h) {
        int sum = 0;
        for (int i = 0; i < count && 4 * i + 3 < rows.length; i++) {
            if ((p == NONE || rows[4 * i] == p) && (b == NONE || rows[4 * i + 1] == b)
                    && (h == NONE || rows[4 * i + 3] == h)) {
                sum += rows[4 * i + 2];
            }
        }
        return sum;
    }

    /** A ring of the latest steps: what it was, its piece, and the beads that each blower got by it. */
    private static final class Steps {
        static final int PIECE = 1;
        static final int BEADS = 2;
        static final int WIDTH = BEADS + MOST_BLOWERS;

        int first;
        int count;
        final int[] rows = new int[WIDTH * MOST_STEPS];

        /** Answers where the row of the new step begins. */
        int push(int what, int p) {
            if (count == MOST_STEPS) {
                first = (first + 1) % MOST_STEPS;
                count--;
            }
            int row = WIDTH * ((first + count) % MOST_STEPS);
            Arrays.fill(rows, row, row + WIDTH, 0);
            rows[row] = what;
            rows[row + PIECE] = p;
            count++;
            return row;
        }

        int pop() {
            if (count == 0) {
                return NONE;
            }
            count--;
            return WIDTH * ((first + count) % MOST_STEPS);
        }

        void takeFrom(Steps other) {
            first = other.first;
            count = other.count;
            copyRow(other.rows, rows);
        }
    }

    /** What was seen of a vase, and what was told of breaths (rows as in the log of bubbles). */
    private static final class Talk {
        int seenCount;
        final int[] breathsSeen = new int[MOST_SEEN];
        int toldCount;
        final int[] told = new int[4 * MOST_TOLD];

        int see(int breaths) {
            if (breaths == NONE) {
                seenCount = 0;
                return 0;
            }
            if (!within(breaths, 0, MOST_SMOKE) || seenCount >= MOST_SEEN) {
                return OTHER;
            }
            breathsSeen[seenCount] = breaths;
            seenCount++;
            return seenCount;
        }

        int mostSeen() {
            int most = 0;
            for (int i = 0; i < seenCount; i++) {
                most = Math.max(most, breathsSeen[i]);
            }
            return most;
        }

        int hear(int p, int b, int n, int h) {
            if (toldCount >= MOST_TOLD) {
                return NONE;
            }
            told[4 * toldCount] = p;
            told[4 * toldCount + 1] = b;
            told[4 * toldCount + 2] = n;
            told[4 * toldCount + 3] = h;
            toldCount++;
            return toldCount;
        }

        int toldSum(int p, int b, int h) {
            return sumOfRows(told, toldCount, p, b, h);
        }

        void takeFrom(Talk other) {
            seenCount = other.seenCount;
            toldCount = other.toldCount;
            copyRow(other.breathsSeen, breathsSeen);
            copyRow(other.told, told);
        }
    }

    /** All that an image keeps. */
    private static final class State {
        final Crew crew = new Crew();
        final Wares wares = new Wares();
        final Bench bench = new Bench();
        final Steps steps = new Steps();
        final Talk talk = new Talk();
        final Text[] texts = new Text[MOST_TEXTS];
        int textCount;
        int ruling = NONE;

        Text textAt(int i) {
            return i >= 0 && i < textCount ? texts[i] : null;
        }

        int addText(Text added) {
            if (textCount >= MOST_TEXTS) {
                return NONE;
            }
            texts[textCount] = added;
            textCount++;
            return textCount - 1;
        }

        int stateOf(int p) {
            if (!bench.has(p) || !wares.has(bench.kindOf[p])) {
                return NONE;
            }
            int k = bench.kindOf[p];
            int breaths = bench.sum(p, NONE, NONE);
            if (breaths < wares.want[k]) {
                return BLOWN;
            }
            boolean sounds = (wares.voices[k] & ~crew.voicesOf(bench.givers(p))) == 0;
            return breaths == wares.want[k] && sounds ? DONE : BELL;
        }

        /** Texts never change, so both sides may hold the same ones. */
        void takeFrom(State other) {
            crew.takeFrom(other.crew);
            wares.takeFrom(other.wares);
            bench.takeFrom(other.bench);
            steps.takeFrom(other.steps);
            talk.takeFrom(other.talk);
            for (int i = 0; i < MOST_TEXTS; i++) {
                texts[i] = other.texts[i];
            }
            textCount = other.textCount;
            ruling = other.ruling;
        }
    }

    /** The bytes that are fed. */
    private static final class Tape {
        final int[] bytes = new int[TAPE_BYTES];
        int length;

        void addFour(int four) {
            for (int shift = 24; shift >= 0 && length < TAPE_BYTES; shift -= 8) {
                bytes[length] = four >> shift & 255;
                length++;
            }
        }
    }

    /** A text that was read: its laws as orders for the judge, and its clauses as rows of four. */
    private static final class Text {
        private final int[] code;
        private final int[] lawFrom;
        private final int[] lawTo;
        private final int[] rows;

        Text(int[] code, int[] lawFrom, int[] lawTo, int[] rows) {
            this.code = code;
            this.lawFrom = lawFrom;
            this.lawTo = lawTo;
            this.rows = rows;
        }

        int clauses() {
            return rows.length / 4;
        }

        int orderOf(int clause, int column) {
            int i = 4 * clause + column;
            return i >= 0 && i < rows.length ? rows[i] : NONE;
        }

        boolean hasLaw(int law) {
            return law >= 0 && law < lawFrom.length && lawFrom[law] >= 0;
        }

        int firstOf(int law) {
            return hasLaw(law) ? lawFrom[law] : 0;
        }

        int behind(int law) {
            return hasLaw(law) && law < lawTo.length ? Math.min(lawTo[law], code.length) : 0;
        }

        int codeAt(int i) {
            return i >= 0 && i < code.length ? code[i] : 0;
        }
    }

    /**
     * Reads a tape by the grammar of the document, one token ahead.
     * After the first fault the token is NO_TOKEN for good, which fits nowhere, so every rule falls through.
     */
    private static final class Parser {
        boolean hasRead;
        int faultNumber;
        int faultPlace = NONE;

        private final Tape tape;
        private int next;
        private int token;
        private int place;
        private int value;
        private int open;
        private int law;
        private int clauses;
        private int size;
        private final int[] code = new int[TAPE_BYTES];
        private final int[] lawFrom = new int[LAWS];
        private final int[] lawTo = new int[LAWS];
        private final int[] rows = new int[4 * MOST_CLAUSES];

        Parser(Tape tape) {
            this.tape = tape;
        }

        /** Answers null if there is a fault. */
        Text parse() {
            hasRead = true;
            faultNumber = 0;
            faultPlace = NONE;
            next = 0;
            open = 0;
            clauses = 0;
            size = 0;
            Arrays.fill(lawFrom, NONE);
            Arrays.fill(lawTo, NONE);
            Arrays.fill(rows, 0);
            advance();
            for (int turn = 0; turn <= MOST_CLAUSES && faultNumber == 0 && token != TAPE_END; turn++) {
                parseClause();
            }
            if (faultNumber != 0) {
                return null;
            }
            return new Text(Arrays.copyOf(code, size), lawFrom.clone(), lawTo.clone(), Arrays.copyOf(rows, 4 * clauses));
        }

        private void parseClause() {
            int word = token;
            if (word < LAW_WORDS || word > WAIT) {
                fail(1);
                return;
            }
            boolean isLaw = word < LAW_WORDS + LAWS;
            if (isLaw && lawFrom[word - LAW_WORDS] != NONE) {
                fail(4);
                return;
            }
            if (clauses >= MOST_CLAUSES) {
                fail(6);
                return;
            }
            int row = 4 * clauses;
            clauses++;
            rows[row] = word;
            advance();
            if (isLaw) {
                law = word - LAW_WORDS;
                lawFrom[law] = size;
                parseSum();
                lawTo[law] = size;
            } else {
                parseDeed(word, row);
            }
            expect(SEMICOLON);
        }

        private void parseDeed(int word, int row) {
            switch (word) {
                case BEGIN:
                    rows[row + 1] = number(0, MOST_KINDS - 1);
                    break;
                case BLOW:
                    rows[row + 1] = number(0, MOST_PIECES - 1);
                    expect(BY);
                    rows[row + 2] = number(0, MOST_BLOWERS - 1);
                    expect(GIVE);
                    rows[row + 3] = number(1, 9);
                    break;
                default:
                    rows[row + 1] = number(1, 99);
                    break;
            }
        }

        private void parseSum() {
            parseProduct();
            for (int turn = 0; turn < TAPE_BYTES && (token == PLUS || token == MINUS); turn++) {
                int sign = token;
                advance();
                parseProduct();
                emit(sign, 0);
            }
        }

        private void parseProduct() {
            parseOne();
            for (int turn = 0; turn < TAPE_BYTES && (token == TIMES || token == OVER); turn++) {
                int sign = token;
                advance();
                parseOne();
                emit(sign, 0);
            }
        }

        private void parseOne() {
            switch (token) {
                case NUMBER:
                    emit(PUT_NUMBER, number(0, 9999));
                    break;
                case OPEN:
                    enter();
                    parseSum();
                    expect(CLOSE);
                    open--;
                    break;
                case MINUS:
                    enter();
                    parseOne();
                    emit(NEGATE, 0);
                    open--;
                    break;
                case IF:
                    parseChoice();
                    break;
                default:
                    parseName();
                    break;
            }
        }

        private void parseName() {
            int name = token - FIRST_NAME;
            if (!within(name, 0, NAMES - 1)) {
                fail(1);
            } else if ((NAMES_OF_LAW[law] >> name & 1) == 0) {
                fail(5);
            } else {
                emit(PUT_NAME, name);
                advance();
            }
        }

        private void parseChoice() {
            enter();
            parseEither();
            expect(QUESTION);
            int leapToOther = emit(LEAP_IF_NOT, 0);
            parseSum();
            expect(COLON);
            int leapToEnd = emit(LEAP, 0);
            aim(leapToOther);
            parseSum();
            aim(leapToEnd);
            expect(END);
            open--;
        }

        private void parseEither() {
            parseBoth();
            for (int turn = 0; turn < TAPE_BYTES && token == OR; turn++) {
                advance();
                parseBoth();
                emit(OR, 0);
            }
        }

        private void parseBoth() {
            parseAsk();
            for (int turn = 0; turn < TAPE_BYTES && token == AND; turn++) {
                advance();
                parseAsk();
                emit(AND, 0);
            }
        }

        private void parseAsk() {
            if (token == NOT) {
                enter();
                parseAsk();
                emit(NOT, 0);
                open--;
                return;
            }
            parseSum();
            int sign = token;
            if (within(sign, LESS, UNLIKE) || sign == NOT_MORE || sign == NOT_LESS) {
                advance();
                parseSum();
                emit(sign, 0);
            } else {
                fail(1);
            }
        }

        /** The only way deeper: what would be the ninth open is refused, and nothing is parsed behind it. */
        private void enter() {
            open++;
            if (open > MOST_OPEN) {
                fail(3);
            } else {
                advance();
            }
        }

        private int number(int low, int high) {
            if (token != NUMBER) {
                fail(1);
                return 0;
            }
            if (!within(value, low, high)) {
                fail(2);
                return 0;
            }
            int read = value;
            advance();
            return read;
        }

        private void expect(int due) {
            if (token == due) {
                advance();
            } else {
                fail(1);
            }
        }

        private void fail(int fault) {
            if (faultNumber == 0) {
                faultNumber = fault;
                faultPlace = place;
            }
            token = NO_TOKEN;
        }

        private int emit(int order, int operand) {
            if (size < code.length) {
                code[size] = order | operand << ORDER_BITS;
                size++;
            }
            return size - 1;
        }

        private void aim(int leap) {
            if (leap >= 0 && leap < size) {
                code[leap] |= size << ORDER_BITS;
            }
        }

        private void advance() {
            if (faultNumber != 0) {
                return;
            }
            while (next < tape.length && (tape.bytes[next] == 32 || tape.bytes[next] == 10)) {
                next++;
            }
            place = next;
            if (next >= tape.length) {
                token = TAPE_END;
                return;
            }
            int first = tape.bytes[next];
            if (isLetter(first)) {
                readWord();
            } else if (isDigit(first)) {
                readNumber();
            } else {
                readSign(first);
            }
        }

        private void readWord() {
            while (next < tape.length && isLetter(tape.bytes[next])) {
                next++;
            }
            token = NO_TOKEN;
            int number = 0;
            int start = 0;
            for (int i = 0; i <= WORDS.length(); i++) {
                if (i == WORDS.length() || WORDS.charAt(i) == ' ') {
                    if (isWord(start, i)) {
                        token = FIRST_WORD + number;
                    }
                    number++;
                    start = i + 1;
                }
            }
        }

        private boolean isWord(int from, int to) {
            if (to - from != next - place) {
                return false;
            }
            for (int i = from; i < to; i++) {
                if (WORDS.charAt(i) != tape.bytes[place + i - from]) {
                    return false;
                }
            }
            return true;
        }

        private void readNumber() {
            token = NUMBER;
            value = 0;
            while (next < tape.length && isDigit(tape.bytes[next])) {
                value = Math.min(10000, 10 * value + tape.bytes[next] - '0');
                next++;
            }
        }

        private void readSign(int first) {
            int sign = SIGNS.indexOf((char) first);
            next++;
            boolean isWide = (sign == LESS || sign == MORE) && next < tape.length && tape.bytes[next] == '=';
            if (isWide) {
                next++;
                token = sign == LESS ? NOT_MORE : NOT_LESS;
            } else {
                token = sign < 0 ? NO_TOKEN : sign;
            }
        }

        private static boolean isLetter(int b) {
            return b >= 'a' && b <= 'z' || b >= 'A' && b <= 'Z';
        }

        private static boolean isDigit(int b) {
            return b >= '0' && b <= '9';
        }
    }

    /** Says what the ruling text's laws come to. */
    private static final class Judge {
        private final int[] names = new int[NAMES];
        private final int[] stack = new int[64];
        private int top;

        int smokeIn(State s, int hour) {
            Text text = lawText(s, SMOKE_LAW);
            if (text == null) {
                return MOST_SMOKE;
            }
            names[HOUR_NAME] = hour;
            return clamp(work(text, SMOKE_LAW), 0, MOST_SMOKE);
        }

        int costOf(State s, int b, int hour) {
            Text text = lawText(s, COST_LAW);
            if (text == null) {
                return 1;
            }
            names[HOUR_NAME] = hour;
            nameBlower(s, b);
            return clamp(work(text, COST_LAW), 0, 99);
        }

        int brittleOf(State s, int p) {
            Text text = lawText(s, BRITTLE_LAW);
            if (text == null) {
                return 0;
            }
            int givers = s.bench.givers(p);
            names[HOUR_NAME] = s.bench.hour;
            names[QUARRELS_NAME] = s.crew.quarrelsIn(givers);
            names[MANY_NAME] = Integer.bitCount(givers);
            nameKind(s, p);
            return clamp(work(text, BRITTLE_LAW), 0, 10);
        }

        int shareOf(State s, int p, int b) {
            int breaths = s.bench.sum(p, b, NONE);
            Text text = lawText(s, SHARE_LAW);
            if (text == null) {
                return breaths;
            }
            names[HOUR_NAME] = s.bench.hour;
            names[BREATHS_NAME] = breaths;
            nameBlower(s, b);
            nameKind(s, p);
            return clamp(work(text, SHARE_LAW), 0, 99);
        }

        private static Text lawText(State s, int law) {
            Text text = s.textAt(s.ruling);
            return text != null && text.hasLaw(law) ? text : null;
        }

        private void nameBlower(State s, int b) {
            if (s.crew.has(b)) {
                names[BLOWER_NAME] = b;
                names[LUNGS_NAME] = s.crew.lungs[b];
                names[VOICE_NAME] = s.crew.voice[b];
                names[BEADS_NAME] = s.crew.beads[b];
            }
        }

        private void nameKind(State s, int p) {
            if (s.bench.has(p) && s.wares.has(s.bench.kindOf[p])) {
                int k = s.bench.kindOf[p];
                names[KIND_NAME] = k;
                names[WANT_NAME] = s.wares.want[k];
                names[WORTH_NAME] = s.wares.worth[k];
            }
        }

        /** Leaps only go forward, so the orders come to an end. */
        private int work(Text text, int law) {
            top = 0;
            int behind = text.behind(law);
            for (int i = text.firstOf(law); i < behind; i++) {
                int order = text.codeAt(i) & (1 << ORDER_BITS) - 1;
                int operand = text.codeAt(i) >> ORDER_BITS;
                if (order == LEAP || order == LEAP_IF_NOT && takeTop() == 0) {
                    i = Math.max(i, operand - 1);
                } else if (order != LEAP_IF_NOT) {
                    obey(order, operand);
                }
            }
            return takeTop();
        }

        private void obey(int order, int operand) {
            switch (order) {
                case PUT_NUMBER:
                    put(operand);
                    break;
                case PUT_NAME:
                    put(operand >= 0 && operand < NAMES ? names[operand] : 0);
                    break;
                case NEGATE:
                    put(-takeTop());
                    break;
                case NOT:
                    put(1 - takeTop());
                    break;
                default:
                    int right = takeTop();
                    int left = takeTop();
                    put(clamp(join(order, left, right), -ROOF, ROOF));
                    break;
            }
        }

        private static long join(int order, long left, long right) {
            switch (order) {
                case PLUS: return left + right;
                case MINUS: return left - right;
                case TIMES: return left * right;
                case OVER: return right == 0 ? 0 : left / right;
                case LESS: return left < right ? 1 : 0;
                case MORE: return left > right ? 1 : 0;
                case SAME: return left == right ? 1 : 0;
                case UNLIKE: return left != right ? 1 : 0;
                case NOT_MORE: return left <= right ? 1 : 0;
                case NOT_LESS: return left >= right ? 1 : 0;
                case AND: return left & right;
                case OR: return left | right;
                default: return 0;
            }
        }

        private void put(int x) {
            if (top < stack.length) {
                stack[top] = x;
                top++;
            }
        }

        private int takeTop() {
            if (top == 0) {
                return 0;
            }
            top--;
            return stack[top];
        }
    }

    /**
     * Finds the best plan. A cell stands for a set of works not yet used and the hour from which one may begin;
     * it holds the best that can follow, so cells are filled from the last hour to the first.
     */
    private static final class Planner {
        static final int MOST_WORKS = 4;
        static final int MOST_HOURS = 24;
        private static final int COLUMNS = MOST_HOURS + 1;
        private static final int CELLS = (1 << MOST_WORKS) * COLUMNS;

        private int hours;
        private int works;
        private int runEnd;
        private int runLeft;
        private final int[] smokes = new int[MOST_HOURS];
        private final int[] prices = new int[MOST_HOURS * MOST_BLOWERS];
        private final int[] kindOf = new int[MOST_WORKS];
        private final int[] left = new int[CELLS];
        private final int[] count = new int[CELLS];
        private final int[] pick = new int[CELLS];
        private final int[] after = new int[CELLS];

        void lookAhead(State s, Judge judge, int end) {
            hours = Math.max(0, Math.min(Math.min(end, MOST_HOURS), LAST_HOUR + 1 - s.bench.hour));
            for (int h = 0; h < hours; h++) {
                smokes[h] = judge.smokeIn(s, s.bench.hour + h);
                for (int b = 0; b < s.crew.count; b++) {
                    prices[h * MOST_BLOWERS + b] = judge.costOf(s, b, s.bench.hour + h);
                }
            }
        }

        void choose(State s, int kinds) {
            works = 0;
            for (int k = 0; k < s.wares.count && works < MOST_WORKS; k++) {
                if ((kinds >> k & 1) != 0) {
                    kindOf[works] = k;
                    works++;
                }
            }
            for (int start = hours; start >= 0; start--) {
                emptyCells(start);
                for (int w = 0; w < works && start < hours; w++) {
                    tryTeams(s, w, start);
                }
            }
        }

        int answer(int what) {
            int cell = cellOf((1 << works) - 1, 0);
            if (what == NONE) {
                return left[cell];
            }
            if (what == OTHER) {
                return count[cell];
            }
            if (what < 0 || what >= count[cell]) {
                return NO_PLAN;
            }
            for (int i = 0; i < what; i++) {
                cell = after[cell];
            }
            return pick[cell];
        }

        private static int cellOf(int set, int start) {
            return set * COLUMNS + start;
        }

        private void emptyCells(int start) {
            for (int set = 0; set < 1 << works; set++) {
                int cell = cellOf(set, start);
                left[cell] = 0;
                count[cell] = 0;
                pick[cell] = NONE;
                after[cell] = cell;
            }
        }

        private void tryTeams(State s, int w, int start) {
            for (int low = 0; low < s.crew.count; low++) {
                for (int high = low; high < s.crew.count; high++) {
                    if (isDoneBy(s, kindOf[w], low, high, start)) {
                        offer(w, start, 100 * kindOf[w] + 10 * low + high);
                    }
                }
            }
        }

        /** Blows one work from an hour on; runEnd and runLeft tell how it went. */
        private boolean isDoneBy(State s, int k, int low, int high, int start) {
            int lowLungs = s.crew.lungs[low];
            int bothLungs = high == low ? lowLungs : lowLungs + s.crew.lungs[high];
            int due = s.wares.want[k];
            int givers = 0;
            runLeft = s.wares.worth[k];
            for (int h = start; h < hours; h++) {
                int breaths = Math.min(due, Math.min(bothLungs, smokes[h]));
                int ofLow = Math.min(breaths, lowLungs);
                int ofHigh = breaths - ofLow;
                runLeft -= ofLow * prices[h * MOST_BLOWERS + low] + ofHigh * prices[h * MOST_BLOWERS + high];
                givers |= (ofLow > 0 ? 1 << low : 0) | (ofHigh > 0 ? 1 << high : 0);
                due -= breaths;
                if (due == 0) {
                    runEnd = h;
                    return (s.wares.voices[k] & ~s.crew.voicesOf(givers)) == 0;
                }
            }
            return false;
        }

        private void offer(int w, int start, int picked) {
            for (int set = 0; set < 1 << works; set++) {
                if ((set >> w & 1) != 0) {
                    int cell = cellOf(set, start);
                    int rest = cellOf(set & ~(1 << w), runEnd + 1);
                    int sum = runLeft + left[rest];
                    int many = 1 + count[rest];
                    if (isBetter(cell, sum, many, picked)) {
                        left[cell] = sum;
                        count[cell] = many;
                        pick[cell] = picked;
                        after[cell] = rest;
                    }
                }
            }
        }

        private boolean isBetter(int cell, int sum, int many, int picked) {
            if (sum != left[cell]) {
                return sum > left[cell];
            }
            if (many != count[cell]) {
                return many < count[cell];
            }
            return picked < pick[cell];
        }
    }
}
