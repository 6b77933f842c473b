/** Promises 12 to 14, 19 and 20: pieces, bubbles and hours. */
final class PieceEdges {
    private final Check check;

    PieceEdges(Check check) {
        this.check = check;
    }

    void test() {
        piecesAreNumbered();
        noSuchKind();
        tenPieces();
        breathsOfABubble();
        piecesWithStateZero();
        noSuchBlower();
        lungsOfAnHour();
        smokeOfAnHour();
        beadsForThem();
        breathsAreMore();
        doneAtWant();
        bells();
        fortyBubbles();
        bubblesAreTold();
        bubbleOthers();
        hoursGoBy();
        hoursThatCannotBe();
        nobodyHasGiven();
        pieceIsTold();
        pieceOthers();
    }

    /** Lungs 9 and 4, beads 50 and 20; kinds that want 12 without voices, 5 with voices 0 and 1; piece 0 of kind 0. */
    private static BreathOnLoan bench() {
        BreathOnLoan x = new BreathOnLoan();
        x.blower(9, 0, 50);
        x.blower(4, 1, 20);
        x.kind(12, 0, 0);
        x.kind(5, 3, 0);
        x.begin(0);
        return x;
    }

    private void piecesAreNumbered() {
        check.says(0, "PIECES 0 .. 9 (begun one by one)");
        check.says(12, "A PIECE of a KIND is begun: its number.");
        BreathOnLoan y = new BreathOnLoan();
        for (int k = 0; k < 6; k++) {
            y.kind(9, 0, k);
        }
        for (int p = 0; p < 10; p++) {
            check.same("piece " + p + " yet", y.piece(p, 0), -1);
            check.same("begin " + p, y.begin(5 - p % 6), p);
            check.same("pieces", y.about(2), p + 1);
            check.same("its kind", y.piece(p, 0), 5 - p % 6);
            check.same("its state", y.piece(p, 1), 0);
            check.same("its breaths", y.piece(p, 2), 0);
            check.same("steps", y.about(6), p + 1);
        }
    }

    private void noSuchKind() {
        check.says(12, "NONE for others");
        check.refuses("begin", Scene::fresh, BreathOnLoan::begin, -1, -1, 0);
        check.refuses("begin", Scene::busy, BreathOnLoan::begin, -1, -1, 3, 5);
        BreathOnLoan x = Scene.busy();
        check.same("the last kind", x.begin(2), 4);
        x.kind(1, 0, 0);
        check.same("a kind that is told now", x.begin(3), 5);
    }

    private void tenPieces() {
        check.says(12, "or if there are 10.");
        check.refuses("the eleventh", Scene::full, BreathOnLoan::begin, -1, 0, 5);
        BreathOnLoan x = new BreathOnLoan();
        x.kind(1, 0, 0);
        for (int p = 0; p < 10; p++) {
            x.begin(0);
        }
        check.same("the eleventh", x.begin(0), -1);
        x.undo();
        check.same("the tenth again", x.begin(0), 9);
    }

    private void breathsOfABubble() {
        check.says(0, "A BUBBLE: a BLOWER gives n breaths (1 .. 9) to a PIECE with STATE 0");
        check.says(13, "A BUBBLE: STATE of the PIECE.");
        check.same("1 breath", bench().blow(0, 0, 1), 0);
        check.same("9 breaths", bench().blow(0, 0, 9), 0);
        check.says(13, "NONE, if it can't be");
        check.refuses("breaths", PieceEdges::bench, (x, n) -> x.blow(0, 0, n), -1, 0, -1, 10);
        BreathOnLoan x = Check.ruledBy("cost 0;");
        x.blower(9, 0, 0);
        x.kind(30, 0, 0);
        x.begin(0);
        check.same("10 for nothing", x.blow(0, 0, 10), -1);
        check.same("0 for nothing", x.blow(0, 0, 0), -1);
        check.same("-1 for nothing", x.blow(0, 0, -1), -1);
        check.same("no beads came", x.of(0, 2), 0);
    }

    private void piecesWithStateZero() {
        check.says(0, "STATE 0 it is blown, 1 DONE, 2 a BELL");
        BreathOnLoan x = Scene.busy();
        check.same("done", x.piece(0, 1), 1);
        check.same("a bell", x.piece(1, 1), 2);
        check.same("blown", x.piece(2, 1), 0);
        check.same("done and sold", x.piece(3, 1), 1);
        for (int p : new int[] {0, 1, 3, 4, -1}) {
            check.leaves("to " + p, Scene::busy, y -> y.blow(p, 1, 1), -1);
        }
        check.refuses("piece", Scene::busy, (y, n) -> y.blow(n, 1, 1), -1, 9, 10);
        check.refuses("piece", Scene::fresh, (y, n) -> y.blow(n, 0, 1), -1, 0);
        check.same("to the one that is blown", x.blow(2, 1, 1), 0);
        check.same("then it is counted", x.piece(2, 2), 3);
    }

    private void noSuchBlower() {
        check.refuses("blower", Scene::busy, (x, n) -> x.blow(2, n, 1), -1, -1, 3, 6);
        BreathOnLoan x = Scene.busy();
        x.blower(1, 0, 2);
        check.same("one who came now", x.blow(2, 3, 1), 0);
    }

    private void lungsOfAnHour() {
        check.says(0, "he has given no more than LUNGS in this HOUR with these");
        check.same("all his lungs", bench().blow(0, 1, 4), 0);
        check.leaves("one above", PieceEdges::bench, x -> x.blow(0, 1, 5), -1);
        check.leaves("one above, two bubbles", () -> blown(1, 2), x -> x.blow(0, 1, 3), -1);
        check.leaves("none is left", () -> blown(1, 4), x -> x.blow(0, 1, 1), -1);
        BreathOnLoan x = blown(1, 2);
        check.same("as many as are left", x.blow(0, 1, 2), 0);
        BreathOnLoan y = blown(1, 3);
        y.begin(0);
        check.same("those to another piece are his, too", y.blow(1, 1, 2), -1);
        check.same("one is left for it", y.blow(1, 1, 1), 0);
        check.same("another's lungs are his own", y.blow(1, 0, 9), 0);
        check.same("what he has given", y.of(1, 3), 4);
        y.undo();
        y.undo();
        check.same("taken back", y.blow(1, 1, 2), -1);
        check.same("taken back, one is left", y.blow(1, 1, 1), 0);
    }

    private static BreathOnLoan blown(int blower, int n) {
        BreathOnLoan x = bench();
        x.blow(0, blower, n);
        return x;
    }

    private static BreathOnLoan smoky(int smoke) {
        BreathOnLoan x = Check.ruledBy("smoke " + smoke + ";");
        x.blower(9, 0, 99);
        x.blower(9, 0, 99);
        x.kind(30, 0, 0);
        x.begin(0);
        x.begin(0);
        return x;
    }

    private void smokeOfAnHour() {
        check.says(0, "all together no more than SMOKE");
        check.same("all the smoke", smoky(5).blow(0, 0, 5), 0);
        check.leaves("one above", () -> smoky(5), x -> x.blow(0, 0, 6), -1);
        check.leaves("no smoke at all", () -> smoky(0), x -> x.blow(0, 0, 1), -1);
        BreathOnLoan x = smoky(12);
        check.same("nine", x.blow(0, 0, 9), 0);
        check.same("four above, by another, to another", x.blow(1, 1, 4), -1);
        check.same("three are left", x.blow(1, 1, 3), 0);
        check.same("none is left", x.blow(0, 1, 1), -1);
        x.by(-1);
        check.same("without the law there is more", x.blow(0, 1, 1), 0);
        x.by(0);
        check.same("less than was given already", x.blow(0, 1, 1), -1);
        x.later(1);
        check.same("anew in the next hour", x.blow(0, 0, 9), 0);
        BreathOnLoan z = new BreathOnLoan();
        z.kind(30, 0, 0);
        z.begin(0);
        z.begin(0);
        for (int b = 0; b < 6; b++) {
            z.blower(9, 0, 99);
        }
        for (int b = 0; b < 4; b++) {
            check.same("nine each", z.blow(b / 3, b, 9), 0);
        }
        check.same("41 without the law", z.blow(1, 4, 5), -1);
        check.same("40 without the law", z.blow(1, 4, 4), 0);
    }

    private static BreathOnLoan dear(int cost, int beads) {
        BreathOnLoan x = Check.ruledBy("cost " + cost + ";");
        x.blower(9, 0, beads);
        x.kind(30, 0, 0);
        x.begin(0);
        return x;
    }

    private void beadsForThem() {
        check.says(0, "and he has BEADS for them (COST each): these are less");
        BreathOnLoan x = dear(7, 21);
        check.same("beads for three", x.blow(0, 0, 3), 0);
        check.same("no beads", x.of(0, 2), 0);
        check.same("none for another", x.blow(0, 0, 1), -1);
        check.leaves("beads for two and some", () -> dear(7, 20), y -> y.blow(0, 0, 3), -1);
        check.leaves("none for one", () -> dear(1, 0), y -> y.blow(0, 0, 1), -1);
        BreathOnLoan y = dear(7, 20);
        check.same("beads for two", y.blow(0, 0, 2), 0);
        check.same("6 are left", y.of(0, 2), 6);
        check.same("for nothing, without beads", dear(0, 0).blow(0, 0, 9), 0);
        BreathOnLoan z = dear(99, 999);
        check.same("the dearest", z.blow(0, 0, 9), 0);
        check.same("999 less 891", z.of(0, 2), 108);
        BreathOnLoan w = new BreathOnLoan();
        w.blower(9, 0, 4);
        w.kind(9, 0, 0);
        w.begin(0);
        check.same("five without the law", w.blow(0, 0, 5), -1);
        check.same("four without the law", w.blow(0, 0, 4), 0);
        check.same("one bead each", w.of(0, 2), 0);
    }

    private void breathsAreMore() {
        check.says(0, "Breaths are n more");
        check.says(0, "a KIND, breaths so far, and for each BLOWER how many were his");
        BreathOnLoan x = blown(0, 3);
        x.blow(0, 1, 2);
        x.blow(0, 0, 4);
        check.same("kind", x.piece(0, 0), 0);
        check.same("breaths", x.piece(0, 2), 9);
        check.same("his", x.piece(0, 10), 7);
        check.same("the other's", x.piece(0, 11), 2);
        x.begin(1);
        check.same("none of another piece", x.piece(1, 2), 0);
        check.same("none of his", x.piece(1, 10), 0);
    }

    private static BreathOnLoan voiced() {
        BreathOnLoan x = bench();
        x.begin(1);
        return x;
    }

    private void doneAtWant() {
        check.says(0, "if they are WANT, and each of its VOICES is that of one who gave some: it is DONE");
        BreathOnLoan x = voiced();
        check.same("one below", x.blow(1, 0, 4), 0);
        check.same("want, both voices", x.blow(1, 1, 1), 1);
        check.same("it is told", x.piece(1, 1), 1);
        BreathOnLoan y = bench();
        y.blow(0, 0, 8);
        check.same("one below want without voices", y.blow(0, 1, 3), 0);
        check.same("want without voices", y.blow(0, 1, 1), 1);
        BreathOnLoan z = new BreathOnLoan();
        z.kind(1, 0, 0);
        z.kind(30, 15, 0);
        for (int b = 0; b < 5; b++) {
            z.blower(9, b % 4, 99);
        }
        z.begin(0);
        z.begin(1);
        check.same("the least want", z.blow(0, 0, 1), 1);
        z.blow(1, 0, 8);
        z.blow(1, 1, 9);
        z.blow(1, 2, 9);
        check.same("29 by all four", z.blow(1, 3, 3), 0);
        check.same("30 by all four", z.blow(1, 4, 1), 1);
        check.same("in later hours, too", later(), 1);
    }

    private static int later() {
        BreathOnLoan x = voiced();
        x.blow(1, 0, 4);
        x.later(99);
        return x.blow(1, 1, 1);
    }

    private void bells() {
        check.says(0, "if they are WANT without, or above it: a BELL");
        BreathOnLoan x = voiced();
        check.same("want without voice 1", x.blow(1, 0, 5), 2);
        check.same("it is told", x.piece(1, 1), 2);
        BreathOnLoan y = voiced();
        y.blow(1, 1, 4);
        check.same("want without voice 0", y.blow(1, 1, 1), -1);
        y.later(1);
        check.same("want without voice 0", y.blow(1, 1, 1), 2);
        BreathOnLoan z = voiced();
        z.blow(1, 1, 4);
        check.same("one above, with both", z.blow(1, 0, 2), 2);
        BreathOnLoan w = bench();
        w.blow(0, 1, 4);
        check.same("one above, without voices", w.blow(0, 0, 9), 2);
        BreathOnLoan v = voiced();
        v.blow(0, 1, 1);
        check.same("he gave some to another piece alone", v.blow(1, 0, 5), 2);
        check.same("it takes no more", v.blow(1, 1, 1), -1);
    }

    private void fortyBubbles() {
        check.says(0, "BUBBLES (40 at most)");
        check.says(13, "(40 BUBBLES, too).");
        check.leaves("the 41st", Scene::full, x -> x.blow(0, 4, 1), -1);
        BreathOnLoan x = Check.ruledBy("cost 0;");
        x.blower(9, 0, 0);
        x.kind(30, 0, 0);
        x.begin(0);
        x.begin(0);
        for (int i = 0; i < 40; i++) {
            x.later(1);
            check.same("bubble " + i, x.blow(i / 20, 0, 1), 0);
            check.same("bubbles", x.bubble(-1, 0), i + 1);
        }
        x.later(1);
        check.same("the 41st", x.blow(0, 0, 1), -1);
        x.undo();
        x.undo();
        check.same("39", x.bubble(-1, 0), 39);
        check.same("the 40th again", x.blow(0, 0, 1), 0);
    }

    private void bubblesAreTold() {
        check.says(0, "PIECE, BLOWER, n, HOUR, one behind the other");
        check.says(20, "BUBBLES: how many (i NONE); the i-th: 0 PIECE, 1 BLOWER, 2 n, 3 HOUR.");
        int[][] due = {{0, 0, 3, 0}, {0, 1, 5, 0}, {1, 1, 5, 1}, {2, 0, 2, 1}, {3, 2, 3, 1}, {3, 0, 1, 1}};
        BreathOnLoan x = Scene.busy();
        check.same("how many", x.bubble(-1, 0), 6);
        for (int i = 0; i < due.length; i++) {
            for (int what = 0; what < 4; what++) {
                check.same("bubble(" + i + ", " + what + ")", x.bubble(i, what), due[i][what]);
            }
        }
        BreathOnLoan y = Scene.full();
        check.same("how many", y.bubble(-1, 0), 40);
        check.same("of new ones", new BreathOnLoan().bubble(-1, 0), 0);
        for (int i = 0; i < 40; i++) {
            check.same("piece of " + i, y.bubble(i, 0), i % 10);
            check.same("blower of " + i, y.bubble(i, 1), i % 6);
            check.same("n of " + i, y.bubble(i, 2), 1);
            check.same("hour of " + i, y.bubble(i, 3), 999);
        }
        check.leaves("to ask", Scene::busy, z -> z.bubble(5, 1), 0);
    }

    private void bubbleOthers() {
        check.says(20, "NONE if there is none such, and for others.");
        for (int what = 0; what < 4; what++) {
            int w = what;
            check.refuses("bubble, " + w, Scene::fresh, (x, n) -> x.bubble(n, w), -1, 0, -2);
            check.refuses("bubble, " + w, Scene::busy, (x, n) -> x.bubble(n, w), -1, 6, -2);
            check.refuses("bubble, " + w, Scene::full, (x, n) -> x.bubble(n, w), -1, 40, -2);
        }
        check.refuses("what", Scene::busy, (x, n) -> x.bubble(5, n), -1, -1, 4);
        check.refuses("what", Scene::full, (x, n) -> x.bubble(39, n), -1, -1, 4);
        BreathOnLoan x = Scene.busy();
        x.undo();
        x.undo();
        check.same("one that was taken back", x.bubble(5, 0), -1);
    }

    private void hoursGoBy() {
        check.says(14, "HOURS go by (1 .. 99), one STEP each: HOUR.");
        BreathOnLoan x = new BreathOnLoan();
        check.same("1", x.later(1), 1);
        check.same("one step", x.about(6), 1);
        check.same("5 more", x.later(5), 6);
        check.same("five steps more", x.about(6), 6);
        check.same("99 more", x.later(99), 105);
        check.same("the hour", x.about(3), 105);
        check.same("30 steps", x.about(6), 30);
        check.same("one of them is taken back", x.undo(), 29);
        check.same("one hour less", x.about(3), 104);
    }

    private static BreathOnLoan at(int hour) {
        BreathOnLoan x = new BreathOnLoan();
        for (int left = hour; left > 0; left -= 99) {
            x.later(Math.min(99, left));
        }
        return x;
    }

    private void hoursThatCannotBe() {
        check.says(14, "NONE for others, or beyond 999.");
        check.refuses("later", Scene::fresh, BreathOnLoan::later, -1, 0, -1, 100);
        check.refuses("later", Scene::busy, BreathOnLoan::later, -1, 0, -1, 100);
        check.refuses("later", Scene::full, BreathOnLoan::later, -1, 0, -1, 1, 99, 100);
        check.same("900 and 99", at(900).later(99), 999);
        check.leaves("901 and 99", () -> at(901), x -> x.later(99), -1);
        check.leaves("998 and 2", () -> at(998), x -> x.later(2), -1);
        check.same("998 and 1", at(998).later(1), 999);
        check.leaves("999 and 1", () -> at(999), x -> x.later(1), -1);
        check.same("999", at(999).about(3), 999);
    }

    private void nobodyHasGiven() {
        check.says(0, "An HOUR goes by: HOUR is one more, nobody has given any in it");
        BreathOnLoan x = Check.ruledBy("smoke 9;");
        x.blower(5, 0, 99);
        x.blower(4, 0, 99);
        x.kind(30, 0, 0);
        x.begin(0);
        x.blow(0, 0, 5);
        x.blow(0, 1, 4);
        check.same("an hour", x.later(1), 1);
        check.same("0 has given none", x.of(0, 3), 0);
        check.same("1 has given none", x.of(1, 3), 0);
        check.same("all his lungs again", x.blow(0, 0, 5), 0);
        check.same("all the smoke again", x.blow(0, 1, 4), 0);
        check.same("18 together", x.piece(0, 2), 18);
        check.same("five in this hour", x.of(0, 3), 5);
    }

    private void pieceIsTold() {
        check.says(19, "Of a PIECE: 0 its KIND, 1 STATE, 2 breaths, 3 whether it is SOLD (1, 0), 10 + b: breaths of BLOWER b.");
        int[][] due = {{0, 1, 8, 0, 3, 5, 0}, {1, 2, 5, 0, 0, 5, 0}, {2, 0, 2, 0, 2, 0, 0}, {1, 1, 4, 1, 1, 0, 3}};
        BreathOnLoan x = Scene.busy();
        for (int p = 0; p < 4; p++) {
            for (int i = 0; i < 7; i++) {
                int what = i < 4 ? i : 6 + i;
                check.same("piece(" + p + ", " + what + ")", x.piece(p, what), due[p][i]);
            }
        }
        BreathOnLoan y = Scene.full();
        check.same("the last blower's breaths", y.piece(9, 15), 1);
        check.leaves("to ask", Scene::busy, z -> z.piece(3, 12), 3);
    }

    private void pieceOthers() {
        check.says(19, "NONE for others.");
        for (int what : new int[] {0, 1, 2, 3, 10}) {
            check.refuses("piece, " + what, Scene::fresh, (x, n) -> x.piece(n, what), -1, 0, -1);
            check.refuses("piece, " + what, Scene::busy, (x, n) -> x.piece(n, what), -1, 4, -1);
            check.refuses("piece, " + what, Scene::full, (x, n) -> x.piece(n, what), -1, 10, -1);
        }
        check.refuses("what", Scene::busy, (x, n) -> x.piece(3, n), -1, -1, 4, 5, 6, 7, 8, 9, 13, 15, 16);
        check.refuses("what", Scene::full, (x, n) -> x.piece(9, n), -1, -1, 4, 9, 16, 20);
    }
}
