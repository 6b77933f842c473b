import java.util.List;

/** Promises 1 to 4, 18 and 30: a new object, blowers, quarrels, kinds, and what is told of them. */
final class CrewEdges {
    private final Check check;

    CrewEdges(Check check) {
        this.check = check;
    }

    void test() {
        noneIsOneBelowNothing();
        aNewObjectHasNothing();
        theFirstImageIsTheNewObject();
        blowersAreNumbered();
        lungs();
        voice();
        beads();
        sixBlowers();
        pairsQuarrel();
        othersDoNotQuarrel();
        kindsAreNumbered();
        want();
        voices();
        worth();
        sixKinds();
        ofABlower();
        ofOthers();
        about();
        aboutOthers();
    }

    private void aNewObjectHasNothing() {
        check.says(1, "No BLOWERS");
        BreathOnLoan x = new BreathOnLoan();
        check.same("blowers", x.about(0), 0);
        check.same("kinds", x.about(1), 0);
        check.same("pieces", x.about(2), 0);
        check.same("texts", x.about(4), 0);
        check.same("steps", x.about(6), 0);
        check.same("seen", x.about(7), 0);
        check.same("told", x.about(8), 0);
        check.same("tape", x.about(9), 0);
        check.same("bubbles", x.bubble(-1, 0), 0);
        check.same("of 0", x.of(0, 0), -1);
        check.same("liars", x.liars(), 0);
        check.says(0, "HOUR 0 .. 999 (at first 0)");
        check.same("hour", x.about(3), 0);
        check.says(0, "THE TEXT (told; at first none) rules");
        check.same("the text", x.about(5), -1);
    }

    private void noneIsOneBelowNothing() {
        check.says(0, "The constants: `NONE = -1`: None.");
        check.same("NONE", BreathOnLoan.NONE, -1);
    }

    private void theFirstImageIsTheNewObject() {
        check.says(1, "THE IMAGE is this.");
        BreathOnLoan x = new BreathOnLoan();
        x.blower(9, 3, 999);
        x.blower(9, 3, 999);
        x.quarrel(0, 1, true);
        x.kind(2, 8, 9);
        x.begin(0);
        x.blow(0, 0, 2);
        x.sell(0);
        x.later(3);
        x.seen(3);
        x.tell(0, 0, 9, 0);
        check.same("back", x.back(), 0);
        List<String> due = Look.NEAR.at(new BreathOnLoan());
        check.yes("it is new again", Look.NEAR.at(x).equals(due));
        check.same("no steps", x.undo(), -1);
    }

    private void blowersAreNumbered() {
        check.says(0, "BLOWERS 0 .. 5 (told one by one)");
        check.says(2, "A BLOWER: his number.");
        BreathOnLoan x = new BreathOnLoan();
        for (int b = 0; b < 6; b++) {
            check.same("of " + b + " yet", x.of(b, 0), -1);
            check.same("blower " + b, x.blower(9 - b, b % 4, 100 * b), b);
            check.same("blowers", x.about(0), b + 1);
        }
        for (int b = 0; b < 6; b++) {
            check.same("lungs of " + b, x.of(b, 0), 9 - b);
            check.same("voice of " + b, x.of(b, 1), b % 4);
            check.same("beads of " + b, x.of(b, 2), 100 * b);
        }
    }

    private void lungs() {
        check.says(0, "LUNGS (1 .. 9)");
        BreathOnLoan x = new BreathOnLoan();
        check.same("1", x.blower(1, 2, 3), 0);
        check.same("9", x.blower(9, 2, 3), 1);
        check.same("1 is told", x.of(0, 0), 1);
        check.same("9 is told", x.of(1, 0), 9);
        check.says(2, "NONE for others");
        check.refuses("lungs", Scene::fresh, (y, n) -> y.blower(n, 2, 3), -1, 0, 10, -1);
        check.refuses("lungs", Scene::busy, (y, n) -> y.blower(n, 2, 3), -1, 0, 10);
    }

    private void voice() {
        check.says(0, "VOICE (0 .. 3)");
        BreathOnLoan x = new BreathOnLoan();
        check.same("0", x.blower(1, 0, 3), 0);
        check.same("3", x.blower(1, 3, 3), 1);
        check.same("0 is told", x.of(0, 1), 0);
        check.same("3 is told", x.of(1, 1), 3);
        check.refuses("voice", Scene::fresh, (y, n) -> y.blower(1, n, 3), -1, -1, 4);
        check.refuses("voice", Scene::busy, (y, n) -> y.blower(1, n, 3), -1, -1, 4);
    }

    private void beads() {
        check.says(0, "BEADS (0 .. 999)");
        BreathOnLoan x = new BreathOnLoan();
        check.same("0", x.blower(1, 0, 0), 0);
        check.same("999", x.blower(1, 3, 999), 1);
        check.same("0 is told", x.of(0, 2), 0);
        check.same("999 is told", x.of(1, 2), 999);
        check.refuses("beads", Scene::fresh, (y, n) -> y.blower(1, 2, n), -1, -1, 1000);
        check.refuses("beads", Scene::busy, (y, n) -> y.blower(1, 2, n), -1, -1, 1000);
    }

    private void sixBlowers() {
        check.says(2, "or if there are 6.");
        check.leaves("the seventh", Scene::full, x -> x.blower(1, 0, 0), -1);
        BreathOnLoan x = Scene.busy();
        check.same("the fourth", x.blower(1, 0, 0), 3);
        check.same("the fifth", x.blower(1, 0, 0), 4);
        check.same("the sixth", x.blower(1, 0, 0), 5);
        check.same("the seventh", x.blower(1, 0, 0), -1);
        x.back();
        check.same("the fourth of the image", x.blower(1, 0, 0), 3);
    }

    private void pairsQuarrel() {
        check.says(0, "QUARRELS: pairs of them (told)");
        check.says(3, "Two unlike BLOWERS QUARREL, or not: true.");
        BreathOnLoan x = Scene.full();
        for (int one = 0; one < 6; one++) {
            check.same("nobody yet", x.of(one, 4), 0);
        }
        check.yes("0 with 5", x.quarrel(0, 5, true));
        check.yes("5 with 3", x.quarrel(5, 3, true));
        check.yes("3 with 5 again", x.quarrel(3, 5, true));
        check.same("of 0", x.of(0, 4), 32);
        check.same("of 5", x.of(5, 4), 9);
        check.same("of 3", x.of(3, 4), 32);
        check.same("of 1", x.of(1, 4), 0);
        check.yes("5 not with 0", x.quarrel(5, 0, false));
        check.yes("0 not with 1", x.quarrel(0, 1, false));
        check.same("of 0", x.of(0, 4), 0);
        check.same("of 5", x.of(5, 4), 8);
        check.same("it is no step", x.about(6), 30);
    }

    private void othersDoNotQuarrel() {
        check.says(3, "False for others.");
        for (int turn = 0; turn < 2; turn++) {
            boolean is = turn == 0;
            check.refuses("one", Scene::busy, (x, n) -> x.quarrel(n, 1, is) ? 1 : 0, 0, 1, -1, 3, 6);
            check.refuses("other", Scene::busy, (x, n) -> x.quarrel(1, n, is) ? 1 : 0, 0, 1, -1, 3, 6);
            check.refuses("both", Scene::full, (x, n) -> x.quarrel(n, n, is) ? 1 : 0, 0, 0, 5, 6);
            check.refuses("the first", Scene::fresh, (x, n) -> x.quarrel(n, 1, is) ? 1 : 0, 0, 0, 1);
        }
    }

    private void kindsAreNumbered() {
        check.says(0, "KINDS 0 .. 5 of works (told one by one)");
        check.says(4, "A KIND: its number.");
        BreathOnLoan x = new BreathOnLoan();
        for (int k = 0; k < 6; k++) {
            check.same("worth of " + k + " yet", x.about(10 + k), -2);
            check.same("kind " + k, x.kind(30 - k, 3 * k, 100 * k), k);
            check.same("kinds", x.about(1), k + 1);
        }
        for (int k = 0; k < 6; k++) {
            check.same("worth of " + k, x.about(10 + k), 100 * k);
            check.same("want and voices of " + k, x.about(20 + k), 3000 - 100 * k + 3 * k);
        }
    }

    private void want() {
        check.says(0, "WANT (1 .. 30 breaths)");
        BreathOnLoan x = new BreathOnLoan();
        check.same("1", x.kind(1, 2, 3), 0);
        check.same("30", x.kind(30, 2, 3), 1);
        check.same("1 is told", x.about(20), 102);
        check.same("30 is told", x.about(21), 3002);
        check.says(4, "NONE for others");
        check.refuses("want", Scene::fresh, (y, n) -> y.kind(n, 2, 3), -1, 0, 31, -1);
        check.refuses("want", Scene::busy, (y, n) -> y.kind(n, 2, 3), -1, 0, 31);
    }

    private void voices() {
        check.says(0, "VOICES (a set of VOICES, bits, 0 .. 15)");
        BreathOnLoan x = new BreathOnLoan();
        check.same("0", x.kind(1, 0, 3), 0);
        check.same("15", x.kind(1, 15, 3), 1);
        check.same("0 is told", x.about(20), 100);
        check.same("15 is told", x.about(21), 115);
        check.refuses("voices", Scene::fresh, (y, n) -> y.kind(1, n, 3), -1, -1, 16);
        check.refuses("voices", Scene::busy, (y, n) -> y.kind(1, n, 3), -1, -1, 16);
    }

    private void worth() {
        check.says(0, "WORTH (0 .. 999)");
        BreathOnLoan x = new BreathOnLoan();
        check.same("0", x.kind(1, 2, 0), 0);
        check.same("999", x.kind(1, 2, 999), 1);
        check.same("0 is told", x.about(10), 0);
        check.same("999 is told", x.about(11), 999);
        check.refuses("worth", Scene::fresh, (y, n) -> y.kind(1, 2, n), -1, -1, 1000);
        check.refuses("worth", Scene::busy, (y, n) -> y.kind(1, 2, n), -1, -1, 1000);
    }

    private void sixKinds() {
        check.says(4, "or if there are 6.");
        check.leaves("the seventh", Scene::full, x -> x.kind(1, 0, 0), -1);
        BreathOnLoan x = Scene.busy();
        check.same("the fourth", x.kind(1, 0, 0), 3);
        check.same("the fifth", x.kind(1, 0, 0), 4);
        check.same("the sixth", x.kind(1, 0, 0), 5);
        check.same("the seventh", x.kind(1, 0, 0), -1);
        x.back();
        check.same("the fourth of the image", x.kind(1, 0, 0), 3);
    }

    private void ofABlower() {
        check.says(18, "Of a BLOWER: 0 LUNGS, 1 VOICE, 2 BEADS, 3 what he has given in this HOUR, 4 QUARRELS (bits).");
        int[][] due = {{5, 0, 94, 3, 2}, {9, 1, 190, 5, 1}, {3, 2, 50, 0, 0}};
        BreathOnLoan x = Scene.busy();
        x.back();
        for (int b = 0; b < 3; b++) {
            for (int what = 0; what < 5; what++) {
                check.same("of(" + b + ", " + what + ")", x.of(b, what), due[b][what]);
            }
        }
        x.later(1);
        check.same("in the next hour", x.of(0, 3), 0);
        check.leaves("to ask", Scene::busy, y -> y.of(2, 3), 3);
    }

    private void ofOthers() {
        check.says(18, "NONE for others.");
        for (int what = 0; what < 5; what++) {
            int w = what;
            check.refuses("of, " + w, Scene::fresh, (x, n) -> x.of(n, w), -1, -1, 0);
            check.refuses("of, " + w, Scene::busy, (x, n) -> x.of(n, w), -1, -1, 3);
            check.refuses("of, " + w, Scene::full, (x, n) -> x.of(n, w), -1, -1, 6);
        }
        check.refuses("what", Scene::busy, (x, n) -> x.of(2, n), -1, -1, 5);
        check.refuses("what", Scene::full, (x, n) -> x.of(5, n), -1, -1, 5);
    }

    private void about() {
        check.says(30, "0 BLOWERS, 1 KINDS, 2 PIECES, 3 HOUR, 4 TEXTS, 5 THE TEXT (NONE), 6 STEPS that can be taken back,"
                + " 7 HOURS SEEN, 8 TOLD, 9 bytes of the tape, 10 + k: WORTH of KIND k, 20 + k: 100 times its WANT and its VOICES.");
        int[] busy = {3, 3, 4, 1, 2, 0, 12, 2, 2, 8, 60, 30, 999};
        int[] full = {6, 6, 10, 999, 4, 0, 30, 8, 20, 300, 999, 998, 997, 996, 995, 994};
        BreathOnLoan x = Scene.busy();
        for (int what = 0; what < busy.length; what++) {
            check.same("about(" + what + ")", x.about(what), busy[what]);
        }
        check.same("about(20)", x.about(20), 803);
        check.same("about(21)", x.about(21), 400);
        check.same("about(22)", x.about(22), 3000);
        BreathOnLoan y = Scene.full();
        for (int what = 0; what < full.length; what++) {
            check.same("full about(" + what + ")", y.about(what), full[what]);
        }
        for (int k = 0; k < 6; k++) {
            check.same("full about(" + (20 + k) + ")", y.about(20 + k), 100 * (30 - k) + k);
        }
        y.by(-1);
        check.same("no text rules", y.about(5), -1);
        check.leaves("to ask", Scene::busy, z -> z.about(6), 12);
    }

    private void aboutOthers() {
        check.says(30, "-2 for others.");
        check.refuses("about", Scene::fresh, BreathOnLoan::about, -2, -1, -2, 10, 15, 16, 19, 20, 25, 26);
        check.refuses("about", Scene::busy, BreathOnLoan::about, -2, -1, -2, 13, 16, 19, 23, 26, 30);
        check.refuses("about", Scene::full, BreathOnLoan::about, -2, -1, -2, 16, 17, 18, 19, 26, 27, 30, 36);
    }
}
