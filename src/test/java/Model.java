import java.math.BigInteger;
import java.util.ArrayList;
import java.util.Arrays;
import java.util.HashMap;
import java.util.List;
import java.util.Map;
import java.util.TreeMap;

/** A second, slow building of the document for ModelTest: whole copies for steps and images, plans by trying them all. */
final class Model {
    private record Piece(int kind, int state, int breaths, boolean sold, List<Integer> by) {
    }

    /** What steps change; a step keeps the whole of it as it was. */
    private record Floor(int hour, List<Integer> beads, List<Integer> given, List<Piece> pieces, List<List<Integer>> bubbles) {
    }

    /** What is told; lists in it are never changed, but made anew. */
    private record Room(List<int[]> blowers, List<Boolean> foes, List<int[]> kinds, List<Script> texts, int ruling,
            List<Integer> seen, List<List<Integer>> told, Floor floor, List<Floor> steps) {
    }

    private Room room = new Room(List.of(), new ArrayList<>(java.util.Collections.nCopies(36, false)), List.of(), List.of(), -1,
            List.of(), List.of(), new Floor(0, List.of(), List.of(), List.of(), List.of()), List.of());
    private Room kept = room;
    private String tape = "";
    private boolean read;
    private int fault;
    private int place = -1;

    private static <T> List<T> with(List<T> list, T added) {
        List<T> longer = new ArrayList<>(list);
        longer.add(added);
        return longer;
    }

    private static <T> List<T> changed(List<T> list, int i, T item) {
        List<T> copy = new ArrayList<>(list);
        copy.set(i, item);
        return copy;
    }

    private Room on(Floor floor, List<Floor> steps) {
        return new Room(room.blowers, room.foes, room.kinds, room.texts, room.ruling, room.seen, room.told, floor, steps);
    }

    private void step(Floor floor) {
        List<Floor> steps = with(room.steps, room.floor);
        room = on(floor, steps.size() > 30 ? steps.subList(1, 31) : steps);
    }

    private boolean isBlower(int b) {
        return 0 <= b && b < room.blowers.size();
    }

    int blower(int lungs, int voice, int beads) {
        if (lungs < 1 || lungs > 9 || voice < 0 || voice > 3 || beads < 0 || beads > 999 || room.blowers.size() == 6) {
            return -1;
        }
        Floor f = room.floor;
        room = new Room(with(room.blowers, new int[] {lungs, voice}), room.foes, room.kinds, room.texts, room.ruling,
                room.seen, room.told, new Floor(f.hour, with(f.beads, beads), with(f.given, 0), f.pieces, f.bubbles), room.steps);
        return room.blowers.size() - 1;
    }

    boolean quarrel(int one, int other, boolean is) {
        if (one == other || !isBlower(one) || !isBlower(other)) {
            return false;
        }
        List<Boolean> foes = changed(changed(room.foes, 6 * one + other, is), 6 * other + one, is);
        room = new Room(room.blowers, foes, room.kinds, room.texts, room.ruling, room.seen, room.told, room.floor, room.steps);
        return true;
    }

    int kind(int want, int voices, int worth) {
        if (want < 1 || want > 30 || voices < 0 || voices > 15 || worth < 0 || worth > 999 || room.kinds.size() == 6) {
            return -1;
        }
        room = new Room(room.blowers, room.foes, with(room.kinds, new int[] {want, voices, worth}), room.texts, room.ruling,
                room.seen, room.told, room.floor, room.steps);
        return room.kinds.size() - 1;
    }

    int feed(int... words) {
        if (tape.length() > 280) {
            return -1;
        }
        for (int word : words) {
            for (byte b : BigInteger.valueOf((word & 0xffffffffL) | 1L << 32).toByteArray()) {
                tape += (char) (b & 255);
            }
            tape = tape.substring(0, tape.length() - 5) + tape.substring(tape.length() - 4);
        }
        return tape.length();
    }

    int end(int n) {
        if (n < 0 || n > tape.length()) {
            return -1;
        }
        tape = tape.substring(0, n);
        return n;
    }

    int text() {
        if (room.texts.size() == 4) {
            return -1;
        }
        String text = tape;
        tape = "";
        read = true;
        fault = 0;
        place = -1;
        try {
            Script script = new Script(text);
            room = new Room(room.blowers, room.foes, room.kinds, with(room.texts, script), room.ruling, room.seen, room.told,
                    room.floor, room.steps);
            return room.texts.size() - 1;
        } catch (Script.Fault f) {
            fault = f.number;
            place = f.place;
            return -1;
        }
    }

    int fault(int what) {
        return !read ? -1 : what == 0 ? fault : what == 1 ? place : -1;
    }

    boolean by(int text) {
        if (text < -1 || text >= room.texts.size()) {
            return false;
        }
        room = new Room(room.blowers, room.foes, room.kinds, room.texts, text, room.seen, room.told, room.floor, room.steps);
        return true;
    }

    private int law(String law, int most, int without, Map<String, Integer> names) {
        Script.Sum sum = room.ruling < 0 ? null : room.texts.get(room.ruling).laws.get(law);
        return sum == null ? without : (int) Math.max(0, Math.min(most, sum.of(names)));
    }

    int smoke(int hour) {
        return hour < 0 || hour > 999 ? -1 : law("smoke", 40, 40, Map.of("hour", hour));
    }

    private Map<String, Integer> ofBlower(int b, int hour) {
        Map<String, Integer> names = new HashMap<>();
        names.put("hour", hour);
        names.put("blower", b);
        names.put("lungs", room.blowers.get(b)[0]);
        names.put("voice", room.blowers.get(b)[1]);
        names.put("beads", room.floor.beads.get(b));
        return names;
    }

    int cost(int b, int hour) {
        return !isBlower(b) || hour < 0 || hour > 999 ? -1 : law("cost", 99, 1, ofBlower(b, hour));
    }

    int begin(int kind) {
        Floor f = room.floor;
        if (kind < 0 || kind >= room.kinds.size() || f.pieces.size() == 10) {
            return -1;
        }
        step(new Floor(f.hour, f.beads, f.given, with(f.pieces, new Piece(kind, 0, 0, false, List.of(0, 0, 0, 0, 0, 0))), f.bubbles));
        return f.pieces.size();
    }

    int blow(int p, int b, int n) {
        Floor f = room.floor;
        if (p < 0 || p >= f.pieces.size() || !isBlower(b) || n < 1 || n > 9 || f.bubbles.size() == 40) {
            return -1;
        }
        Piece piece = f.pieces.get(p);
        int price = n * cost(b, f.hour);
        if (piece.state != 0 || f.given.get(b) + n > room.blowers.get(b)[0] || f.beads.get(b) < price
                || f.given.stream().mapToInt(x -> x).sum() + n > smoke(f.hour)) {
            return -1;
        }
        List<Integer> by = changed(piece.by, b, piece.by.get(b) + n);
        int[] kind = room.kinds.get(piece.kind);
        int breaths = piece.breaths + n;
        int state = breaths < kind[0] ? 0 : breaths == kind[0] && sounds(kind[1], by) ? 1 : 2;
        step(new Floor(f.hour, changed(f.beads, b, f.beads.get(b) - price), changed(f.given, b, f.given.get(b) + n),
                changed(f.pieces, p, new Piece(piece.kind, state, breaths, false, by)), with(f.bubbles, List.of(p, b, n, f.hour))));
        return state;
    }

    private boolean sounds(int voices, List<Integer> by) {
        for (int v = 0; v < 4; v++) {
            boolean heard = (voices & 1 << v) == 0;
            for (int b = 0; b < room.blowers.size(); b++) {
                heard |= by.get(b) > 0 && room.blowers.get(b)[1] == v;
            }
            if (!heard) {
                return false;
            }
        }
        return true;
    }

    int later(int hours) {
        if (hours < 1 || hours > 99 || room.floor.hour + hours > 999) {
            return -1;
        }
        for (int i = 0; i < hours; i++) {
            Floor f = room.floor;
            step(new Floor(f.hour + 1, f.beads, new ArrayList<>(java.util.Collections.nCopies(f.given.size(), 0)), f.pieces, f.bubbles));
        }
        return room.floor.hour;
    }

    int sell(int p) {
        Floor f = room.floor;
        if (p < 0 || p >= f.pieces.size() || f.pieces.get(p).state != 1 || f.pieces.get(p).sold) {
            return -1;
        }
        Piece piece = f.pieces.get(p);
        int[] kind = room.kinds.get(piece.kind);
        int[] shares = new int[6];
        for (int b = 0; b < room.blowers.size(); b++) {
            if (piece.by.get(b) > 0) {
                Map<String, Integer> names = ofBlower(b, f.hour);
                names.putAll(Map.of("kind", piece.kind, "want", kind[0], "worth", kind[2], "breaths", piece.by.get(b)));
                shares[b] = law("share", 99, piece.by.get(b), names);
            }
        }
        int all = Arrays.stream(shares).sum();
        List<Integer> beads = new ArrayList<>(f.beads);
        int more = 0;
        for (int b = 0; b < beads.size() && all > 0; b++) {
            int then = Math.min(999, beads.get(b) + kind[2] * shares[b] / all);
            more += then - beads.get(b);
            beads.set(b, then);
        }
        step(new Floor(f.hour, beads, f.given, changed(f.pieces, p, new Piece(piece.kind, 1, piece.breaths, true, piece.by)), f.bubbles));
        return more;
    }

    int played(int text) {
        if (text < 0 || text >= room.texts.size()) {
            return -2;
        }
        List<List<Integer>> deeds = room.texts.get(text).deeds;
        for (int i = 0; i < deeds.size(); i++) {
            List<Integer> d = deeds.get(i);
            int done = switch (d.get(0)) {
                case 1 -> begin(d.get(1));
                case 2 -> blow(d.get(1), d.get(2), d.get(3));
                case 3 -> later(d.get(1));
                default -> 0;
            };
            if (done == -1) {
                return i;
            }
        }
        return -1;
    }

    int undo() {
        int count = room.steps.size();
        if (count == 0) {
            return -1;
        }
        Floor was = room.steps.get(count - 1);
        List<Integer> beads = new ArrayList<>(was.beads);
        List<Integer> given = new ArrayList<>(was.given);
        for (int b = beads.size(); b < room.blowers.size(); b++) {
            beads.add(room.floor.beads.get(b));
            given.add(0);
        }
        room = on(new Floor(was.hour, beads, given, was.pieces, was.bubbles), room.steps.subList(0, count - 1));
        return count - 1;
    }

    int of(int b, int what) {
        if (!isBlower(b)) {
            return -1;
        }
        int foes = 0;
        for (int other = 0; other < 6; other++) {
            foes += room.foes.get(6 * b + other) ? 1 << other : 0;
        }
        return switch (what) {
            case 0, 1 -> room.blowers.get(b)[what];
            case 2 -> room.floor.beads.get(b);
            case 3 -> room.floor.given.get(b);
            case 4 -> foes;
            default -> -1;
        };
    }

    int piece(int p, int what) {
        if (p < 0 || p >= room.floor.pieces.size()) {
            return -1;
        }
        Piece piece = room.floor.pieces.get(p);
        return switch (what) {
            case 0 -> piece.kind;
            case 1 -> piece.state;
            case 2 -> piece.breaths;
            case 3 -> piece.sold ? 1 : 0;
            default -> what >= 10 && isBlower(what - 10) ? piece.by.get(what - 10) : -1;
        };
    }

    int bubble(int i, int what) {
        List<List<Integer>> bubbles = room.floor.bubbles;
        return i == -1 ? bubbles.size() : i < 0 || i >= bubbles.size() || what < 0 || what > 3 ? -1 : bubbles.get(i).get(what);
    }

    long odds(int set, int what) {
        if (set < 0 || what < 0 || what > 1) {
            return -1;
        }
        BigInteger upper = BigInteger.ONE;
        BigInteger lower = BigInteger.ONE;
        for (int p = 0; p < 31; p++) {
            if ((set & 1 << p) == 0) {
                continue;
            }
            if (piece(p, 1) != 1) {
                return -1;
            }
            upper = upper.multiply(BigInteger.valueOf(10 - brittle(room.floor.pieces.get(p))));
            lower = lower.multiply(BigInteger.TEN);
        }
        BigInteger common = upper.gcd(lower);
        return (what == 0 ? upper : lower).divide(common).longValueExact();
    }

    private int brittle(Piece piece) {
        int quarrels = 0;
        int many = 0;
        for (int a = 0; a < 6; a++) {
            many += piece.by.get(a) > 0 ? 1 : 0;
            for (int b = 0; b < a; b++) {
                quarrels += piece.by.get(a) > 0 && piece.by.get(b) > 0 && room.foes.get(6 * a + b) ? 1 : 0;
            }
        }
        int[] kind = room.kinds.get(piece.kind);
        return law("brittle", 10, 0, Map.of("hour", room.floor.hour, "kind", piece.kind, "want", kind[0], "worth", kind[2],
                "quarrels", quarrels, "many", many));
    }

    int plan(int kinds, int end, int what) {
        if (kinds < 0 || kinds >= 1 << room.kinds.size() || Integer.bitCount(kinds) > 4 || end < 1 || end > 24) {
            return -1000000;
        }
        best = List.of();
        bestLeft = 0;
        tryAll(kinds, room.floor.hour, Math.min(1000, room.floor.hour + end), 0, List.of(), new HashMap<>());
        return what == -1 ? bestLeft : what == -2 ? best.size() : what >= 0 && what < best.size() ? best.get(what) : -1000000;
    }

    private List<Integer> best;
    private int bestLeft;

    private void tryAll(int kinds, int from, int end, int left, List<Integer> works, Map<Integer, int[]> runs) {
        if (left > bestLeft || left == bestLeft && isAhead(works, best)) {
            bestLeft = left;
            best = works;
        }
        for (int k = 0; k < 6; k++) {
            for (int a = 0; a < room.blowers.size() && (kinds & 1 << k) != 0; a++) {
                for (int b = a; b < room.blowers.size(); b++) {
                    int team = 100 * k + 10 * a + b;
                    int[] run = runs.get(1000 * from + team);
                    if (run == null) {
                        run = run(k, a, b, from, end);
                        runs.put(1000 * from + team, run);
                    }
                    if (run.length > 0) {
                        tryAll(kinds & ~(1 << k), run[0] + 1, end, left + run[1], with(works, team), runs);
                    }
                }
            }
        }
    }

    private static boolean isAhead(List<Integer> one, List<Integer> other) {
        if (one.size() != other.size()) {
            return one.size() < other.size();
        }
        return Arrays.compare(one.toArray(new Integer[0]), other.toArray(new Integer[0])) < 0;
    }

    private int[] run(int k, int a, int b, int from, int end) {
        int[] kind = room.kinds.get(k);
        List<Integer> by = new ArrayList<>(List.of(0, 0, 0, 0, 0, 0));
        int breaths = 0;
        int left = kind[2];
        for (int hour = from; hour < end; hour++) {
            int smoke = smoke(hour);
            for (int b1 : a == b ? new int[] {a} : new int[] {a, b}) {
                for (int i = 0; i < room.blowers.get(b1)[0] && smoke > 0 && breaths < kind[0]; i++) {
                    smoke--;
                    breaths++;
                    left -= cost(b1, hour);
                    by.set(b1, by.get(b1) + 1);
                }
            }
            if (breaths == kind[0]) {
                return sounds(kind[1], by) ? new int[] {hour, left} : new int[0];
            }
        }
        return new int[0];
    }

    int seen(int breaths) {
        List<Integer> seen = breaths == -1 ? List.of() : with(room.seen, breaths);
        if (breaths < -1 || breaths > 40 || seen.size() > 8) {
            return -2;
        }
        room = new Room(room.blowers, room.foes, room.kinds, room.texts, room.ruling, seen, room.told, room.floor, room.steps);
        return seen.size();
    }

    int whose(int i) {
        List<Integer> sets = new ArrayList<>();
        for (int set = 1; set < 1 << room.blowers.size() && !room.seen.isEmpty(); set++) {
            if (Integer.bitCount(set) <= 3 && canHave(set)) {
                sets.add(set);
            }
        }
        return i == -1 ? sets.size() : i >= 0 && i < sets.size() ? sets.get(i) : -1;
    }

    private int lungs(int set) {
        int lungs = 0;
        for (int b = 0; b < room.blowers.size(); b++) {
            lungs += (set & 1 << b) != 0 ? room.blowers.get(b)[0] : 0;
        }
        return lungs;
    }

    private boolean canHave(int set) {
        boolean isTight = Integer.bitCount(set) == 1;
        for (int seen : room.seen) {
            if (lungs(set) < seen) {
                return false;
            }
            boolean allNeeded = true;
            for (int b = 0; b < 6; b++) {
                allNeeded &= (set & 1 << b) == 0 || lungs(set & ~(1 << b)) < seen;
            }
            isTight |= allNeeded;
        }
        return isTight;
    }

    int tell(int b, int p, int n, int hour) {
        if (!isBlower(b) || p < 0 || p > 9 || n < 1 || n > 9 || hour < 0 || hour > 999 || room.told.size() == 20) {
            return -1;
        }
        room = new Room(room.blowers, room.foes, room.kinds, room.texts, room.ruling, room.seen,
                with(room.told, List.of(p, b, n, hour)), room.floor, room.steps);
        return room.told.size();
    }

    int liars() {
        Map<String, Integer> open = new TreeMap<>();
        for (List<Integer> t : room.told) {
            open.merge(t.get(1) + ":" + t.get(0) + ":" + t.get(3), t.get(2), Integer::sum);
        }
        for (List<Integer> t : room.floor.bubbles) {
            open.merge(t.get(1) + ":" + t.get(0) + ":" + t.get(3), -t.get(2), Integer::sum);
        }
        int bits = 0;
        for (Map.Entry<String, Integer> e : open.entrySet()) {
            bits |= e.getValue() > 0 ? 1 << e.getKey().charAt(0) - '0' : 0;
        }
        return bits;
    }

    int coughs(int seed, int n, int c, int blower) {
        if (seed < 0 || seed > 9999 || n < 1 || n > 30 || c < 1 || c > 10 || !isBlower(blower)) {
            return -1;
        }
        int[] lost = new int[6];
        long x = seed * 7L + 5;
        for (int draw = 0; draw < n * room.blowers.size(); draw++) {
            lost[draw % room.blowers.size()] += x % 10 < c ? 1 : 0;
            x = (x * 181 + 37) % 30103;
        }
        return lost[blower];
    }

    int image() {
        kept = room;
        return room.floor.hour;
    }

    int back() {
        room = kept;
        return room.floor.hour;
    }

    int about(int what) {
        int kinds = room.kinds.size();
        if (what >= 10 && what < 10 + kinds) {
            return room.kinds.get(what - 10)[2];
        }
        if (what >= 20 && what < 20 + kinds) {
            return 100 * room.kinds.get(what - 20)[0] + room.kinds.get(what - 20)[1];
        }
        int[] all = {room.blowers.size(), kinds, room.floor.pieces.size(), room.floor.hour, room.texts.size(), room.ruling,
            room.steps.size(), room.seen.size(), room.told.size(), tape.length()};
        return what >= 0 && what < all.length ? all[what] : -2;
    }
}
