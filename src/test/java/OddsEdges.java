/** Promise 21: odds, and the law of brittleness. */
final class OddsEdges {
    private final Check check;

    OddsEdges(Check check) {
        this.check = check;
    }

    void test() {
        theBrittleLaw();
        asOfNow();
        namesOfBrittle();
        allSixQuarrel();
        apartFromTheOthers();
        allAreDone();
        lowestTerms();
        oddsOthers();
    }

    /** Pieces 0 (kind 0, by blower 0), 1 (kind 1, by 0 and 1) and 2 (kind 1, by 0, 1 and 2) are done. */
    private static BreathOnLoan done(String text) {
        BreathOnLoan x = Check.ruledBy("cost 0;" + text);
        for (int b = 0; b < 4; b++) {
            x.blower(9, 0, 0);
        }
        x.kind(1, 0, 2);
        x.kind(3, 0, 5);
        x.begin(0);
        x.begin(1);
        x.begin(1);
        x.blow(0, 0, 1);
        x.blow(1, 0, 2);
        x.blow(1, 1, 1);
        x.blow(2, 0, 1);
        x.blow(2, 1, 1);
        x.blow(2, 2, 1);
        return x;
    }

    private void pair(String what, BreathOnLoan x, int set, long upper, long lower) {
        check.same("upper of " + what, x.odds(set, 0), upper);
        check.same("lower of " + what, x.odds(set, 1), lower);
    }

    private void theBrittleLaw() {
        check.says(0, "ODDS: a PIECE that is DONE breaks by brittle (0 at least, 10 at most; without: 0) of 10");
        pair("-9999", done("brittle 0-9999;"), 1, 1, 1);
        pair("-1", done("brittle 0-1;"), 1, 1, 1);
        pair("0", done("brittle 0;"), 1, 1, 1);
        pair("1", done("brittle 1;"), 1, 9, 10);
        pair("9", done("brittle 9;"), 1, 1, 10);
        pair("10", done("brittle 10;"), 1, 0, 1);
        pair("11", done("brittle 11;"), 1, 0, 1);
        pair("9999", done("brittle 9999;"), 1, 0, 1);
        pair("without", done(""), 7, 1, 1);
        BreathOnLoan x = done("brittle 5;");
        x.by(-1);
        pair("no text", x, 7, 1, 1);
    }

    private void asOfNow() {
        check.says(0, "(as of now)");
        BreathOnLoan x = done("brittle hour+quarrels;");
        pair("hour 0", x, 2, 1, 1);
        x.later(3);
        pair("hour 3", x, 2, 7, 10);
        x.quarrel(0, 1, true);
        pair("they quarrel", x, 2, 3, 5);
        x.undo();
        pair("hour 2", x, 2, 7, 10);
        x.quarrel(1, 0, false);
        pair("no more", x, 2, 4, 5);
        x.sell(1);
        pair("sold", x, 2, 4, 5);
        Check.read(x, "brittle 1;");
        x.by(1);
        pair("by another text", x, 2, 9, 10);
    }

    private void namesOfBrittle() {
        check.says(0, "quarrels (how many pairs of those who gave some QUARREL), many (how many gave some) in brittle");
        BreathOnLoan x = done("brittle many;");
        pair("one", x, 1, 9, 10);
        pair("two", x, 2, 4, 5);
        pair("three", x, 4, 7, 10);
        BreathOnLoan y = done("brittle quarrels;");
        y.quarrel(3, 0, true);
        y.quarrel(3, 1, true);
        y.quarrel(0, 2, true);
        pair("with one who gave none", y, 1, 1, 1);
        pair("with two who gave none", y, 2, 1, 1);
        pair("one pair", y, 4, 9, 10);
        y.quarrel(2, 1, true);
        pair("two pairs", y, 4, 4, 5);
        y.quarrel(0, 1, true);
        pair("three pairs", y, 4, 7, 10);
        pair("one pair of two", y, 2, 9, 10);
        pair("alone", y, 1, 1, 1);
        check.says(0, "kind, want, worth in brittle and share");
        pair("kind 0", done("brittle kind;"), 1, 1, 1);
        pair("kind 1", done("brittle kind;"), 2, 9, 10);
        pair("want 1", done("brittle want;"), 1, 9, 10);
        pair("want 3", done("brittle want;"), 2, 7, 10);
        pair("worth 2", done("brittle worth;"), 1, 4, 5);
        pair("worth 5", done("brittle worth;"), 2, 1, 2);
    }

    private void allSixQuarrel() {
        BreathOnLoan x = Check.ruledBy("cost 0;brittle quarrels/2;");
        for (int b = 0; b < 6; b++) {
            x.blower(9, 0, 0);
        }
        x.kind(6, 0, 0);
        x.begin(0);
        for (int b = 0; b < 6; b++) {
            x.blow(0, b, 1);
            for (int other = 0; other < b; other++) {
                x.quarrel(b, other, true);
            }
        }
        pair("15 pairs, 7 of 10", x, 1, 3, 10);
        x.quarrel(0, 5, false);
        x.quarrel(5, 4, false);
        pair("13 pairs, 6 of 10", x, 1, 2, 5);
        Check.read(x, "brittle many;");
        x.by(1);
        pair("six gave some", x, 1, 2, 5);
    }

    private void apartFromTheOthers() {
        check.says(0, "apart from the others");
        BreathOnLoan x = done("brittle many;");
        pair("one and two", x, 3, 18, 25);
        pair("one and three", x, 5, 63, 100);
        pair("two and three", x, 6, 14, 25);
        pair("all", x, 7, 63, 125);
        check.says(21, "ODDS of a set of PIECES: the upper (0), the lower one (1).");
        pair("none of them", x, 0, 1, 1);
        pair("none of none", new BreathOnLoan(), 0, 1, 1);
        check.leaves("to ask", Scene::busy, y -> y.odds(9, 0), 21);
        check.leaves("to ask the lower", Scene::busy, y -> y.odds(9, 1), 50);
    }

    private void allAreDone() {
        check.says(0, "of a set of PIECES (all DONE) that none breaks");
        check.says(21, "and if one isn't DONE.");
        BreathOnLoan x = Scene.busy();
        pair("done ones", x, 1, 3, 5);
        for (int set : new int[] {2, 4, 6, 3, 5, 15, 10, 12}) {
            check.leaves("upper of " + set, Scene::busy, y -> y.odds(set, 0), -1);
            check.leaves("lower of " + set, Scene::busy, y -> y.odds(set, 1), -1);
        }
        x.begin(0);
        check.same("one without a breath", x.odds(16, 0), -1);
    }

    private void lowestTerms() {
        check.says(0, "in lowest terms");
        long[] uppers = {1, 9, 4, 7, 3, 1, 2, 3, 1, 1, 0};
        long[] lowers = {1, 10, 5, 10, 5, 2, 5, 10, 5, 10, 1};
        for (int brittle = 0; brittle <= 10; brittle++) {
            pair("brittle " + brittle, done("brittle " + brittle + ";"), 1, uppers[brittle], lowers[brittle]);
        }
        pair("0 and others", done("brittle if kind=0?10:3 end;"), 7, 0, 1);
        pair("ten of 9", ten(1), 1023, 3486784401L, 10000000000L);
        pair("ten of 5", ten(5), 1023, 1, 1024);
        pair("ten of 1", ten(9), 1023, 1, 10000000000L);
        pair("nine of 1", ten(9), 511, 1, 1000000000L);
        pair("ten of 10", ten(0), 1023, 1, 1);
    }

    private static BreathOnLoan ten(int brittle) {
        BreathOnLoan x = Check.ruledBy("cost 0;brittle " + brittle + ";");
        x.blower(9, 0, 0);
        x.kind(1, 0, 0);
        for (int p = 0; p < 10; p++) {
            x.begin(0);
            x.later(1);
            x.blow(p, 0, 1);
        }
        return x;
    }

    private void oddsOthers() {
        check.says(21, "NONE for others,");
        for (int what = 0; what < 2; what++) {
            int w = what;
            check.refuses("odds, " + w, Scene::fresh, (x, n) -> x.odds(n, w), -1, -1, 1, 2);
            check.refuses("odds, " + w, Scene::busy, (x, n) -> x.odds(n, w), -1, -1, 16, 17, 1024);
            check.refuses("odds, " + w, () -> ten(1), (x, n) -> x.odds(n, w), -1, -1, 1024, 1025, 2047);
        }
        check.refuses("what", Scene::busy, (x, n) -> x.odds(1, n), -1, -1, 2);
        check.refuses("what", Scene::fresh, (x, n) -> x.odds(0, n), -1, -1, 2);
    }
}
