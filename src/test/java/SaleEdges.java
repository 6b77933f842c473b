/** Promise 15: what a sale brings to whom. */
final class SaleEdges {
    private final Check check;

    SaleEdges(Check check) {
        this.check = check;
    }

    void test() {
        doneAndOnce();
        notDone();
        sharesAreCut();
        sharesByBreaths();
        theShareLaw();
        shareNames();
        beadsAreThoseAhead();
        withoutShares();
        beadsAboveAreLost();
        allSixShare();
        theAnswer();
    }

    /** Three blowers with 100 beads each gave 2, 0 and 4 breaths, for nothing, to a piece that is done. */
    private static BreathOnLoan done(String share, int worth) {
        BreathOnLoan x = Check.ruledBy("cost 0;" + share);
        x.blower(9, 0, 100);
        x.blower(8, 1, 100);
        x.blower(7, 2, 100);
        x.kind(1, 0, 0);
        x.kind(6, 0, worth);
        x.begin(1);
        x.blow(0, 0, 2);
        x.blow(0, 2, 4);
        return x;
    }

    private void brings(String share, int worth, int first, int third) {
        BreathOnLoan x = done(share, worth);
        check.same("sale by '" + share + "'", x.sell(0), first + third);
        check.same("0 has more by '" + share + "'", x.of(0, 2), 100 + first);
        check.same("1 gave none, by '" + share + "'", x.of(1, 2), 100);
        check.same("2 has more by '" + share + "'", x.of(2, 2), 100 + third);
        check.same("it is sold", x.piece(0, 3), 1);
    }

    private void doneAndOnce() {
        check.says(0, "SOLD: a PIECE that is DONE (once)");
        BreathOnLoan x = done("", 60);
        check.same("not sold yet", x.piece(0, 3), 0);
        check.same("once", x.sell(0), 60);
        check.same("sold", x.piece(0, 3), 1);
        check.same("done yet", x.piece(0, 1), 1);
        check.same("not twice", x.sell(0), -1);
        check.same("beads came once", x.of(2, 2), 140);
        check.leaves("twice", Scene::busy, y -> y.sell(3), -1);
        x.undo();
        check.same("again when it was taken back", x.sell(0), 60);
    }

    private void notDone() {
        check.says(15, "NONE: it isn't DONE, was SOLD, and for others.");
        check.leaves("a bell", Scene::busy, x -> x.sell(1), -1);
        check.leaves("one that is blown", Scene::busy, x -> x.sell(2), -1);
        check.leaves("one that was sold", Scene::busy, x -> x.sell(3), -1);
        check.refuses("sell", Scene::fresh, BreathOnLoan::sell, -1, -1, 0);
        check.refuses("sell", Scene::busy, BreathOnLoan::sell, -1, -1, 4, 9, 10);
        check.refuses("sell", Scene::full, BreathOnLoan::sell, -1, -1, 0, 9, 10);
    }

    private void sharesAreCut() {
        check.says(0, "each who gave some has WORTH times his share by all shares, cut");
        brings("", 6, 2, 4);
        brings("", 7, 2, 4);
        brings("", 8, 2, 5);
        brings("", 100, 33, 66);
        brings("", 1, 0, 0);
        brings("", 0, 0, 0);
        brings("share 50;", 100, 50, 50);
        brings("share 50;", 101, 50, 50);
    }

    private void sharesByBreaths() {
        check.says(0, "without: his breaths");
        brings("", 30, 10, 20);
        BreathOnLoan x = done("share 1;", 30);
        x.by(-1);
        x.sell(0);
        check.same("no text rules", x.of(0, 2), 110);
        BreathOnLoan y = new BreathOnLoan();
        y.blower(9, 0, 99);
        y.blower(9, 0, 99);
        y.kind(30, 0, 30);
        y.begin(0);
        for (int i = 0; i < 3; i++) {
            y.blow(0, 0, 9);
            y.later(1);
        }
        y.blow(0, 1, 3);
        check.same("27 and 3", y.sell(0), 30);
        check.same("27", y.of(0, 2), 99);
        check.same("3", y.of(1, 2), 99);
    }

    private void theShareLaw() {
        check.says(0, "share (0 at least, 99 at most;");
        brings("share if blower=0?0-1:1 end;", 100, 0, 100);
        brings("share if blower=0?0-9999:1 end;", 100, 0, 100);
        brings("share if blower=0?0:1 end;", 100, 0, 100);
        brings("share if blower=0?98:1 end;", 900, 890, 9);
        brings("share if blower=0?99:1 end;", 900, 891, 9);
        brings("share if blower=0?100:1 end;", 900, 891, 9);
        brings("share if blower=0?9999:1 end;", 900, 891, 9);
        brings("share if blower=1?99:1 end;", 100, 50, 50);
    }

    private void shareNames() {
        check.says(0, "breaths (his own) in share");
        brings("share breaths*breaths;", 100, 20, 80);
        check.says(0, "blower, lungs, voice, beads in cost and share");
        brings("share blower+1;", 100, 25, 75);
        brings("share lungs;", 160, 90, 70);
        brings("share voice+1;", 100, 25, 75);
        brings("share if beads=100?blower+1:0 end;", 100, 25, 75);
        check.says(0, "kind, want, worth in brittle and share");
        brings("share if kind=1?blower+1:7 end;", 100, 25, 75);
        brings("share if want=6?blower+1:7 end;", 100, 25, 75);
        brings("share if worth=100?blower+1:7 end;", 100, 25, 75);
        check.says(0, "NAMES: hour in all");
        BreathOnLoan x = done("share if hour=9?blower+1:7 end;", 100);
        x.later(9);
        x.sell(0);
        check.same("in the hour of the sale", x.of(0, 2), 125);
    }

    private void beadsAreThoseAhead() {
        BreathOnLoan x = done("share beads-100+blower+1;", 100);
        check.same("the first one's beads are not asked again", x.sell(0), 100);
        check.same("a fourth", x.of(0, 2), 125);
        check.same("the rest", x.of(2, 2), 175);
    }

    private void withoutShares() {
        check.says(0, "without any shares: nobody");
        brings("share 0;", 100, 0, 0);
        brings("share 0-breaths;", 100, 0, 0);
        BreathOnLoan x = done("share 0;", 100);
        check.same("nothing", x.sell(0), 0);
        check.same("it was sold", x.sell(0), -1);
        check.same("it was a step", x.about(6), 4);
    }

    private void beadsAboveAreLost() {
        check.says(0, "its WORTH is shared out in BEADS (999 at most for each; what is above is lost)");
        brings("share if blower=0?1:0 end;", 898, 898, 0);
        brings("share if blower=0?1:0 end;", 899, 899, 0);
        brings("share if blower=0?1:0 end;", 900, 899, 0);
        brings("share if blower=0?1:0 end;", 999, 899, 0);
        BreathOnLoan x = Check.ruledBy("cost 0;");
        x.blower(9, 0, 999);
        x.blower(9, 0, 0);
        x.kind(2, 0, 999);
        x.begin(0);
        x.blow(0, 0, 1);
        x.blow(0, 1, 1);
        check.same("what the first can't have the other hasn't", x.sell(0), 499);
        check.same("999", x.of(0, 2), 999);
        check.same("499", x.of(1, 2), 499);
    }

    private void allSixShare() {
        BreathOnLoan x = Check.ruledBy("cost blower/5;share blower+1;");
        for (int b = 0; b < 6; b++) {
            x.blower(9, b % 4, b);
        }
        x.kind(30, 15, 210);
        x.begin(0);
        for (int b = 0; b < 6; b++) {
            x.blow(0, b, 5);
        }
        check.same("by 1 to 6 of 21", x.sell(0), 210);
        for (int b = 0; b < 6; b++) {
            check.same("beads of " + b, x.of(b, 2), 10 * (b + 1) + b % 5);
        }
        x.undo();
        for (int b = 0; b < 6; b++) {
            check.same("beads of " + b + " again", x.of(b, 2), b % 5);
        }
        check.same("not sold", x.piece(0, 3), 0);
    }

    private void theAnswer() {
        check.says(15, "SOLD: BEADS that all have more then, together.");
        BreathOnLoan x = done("", 100);
        int before = x.of(0, 2) + x.of(1, 2) + x.of(2, 2);
        int more = x.sell(0);
        check.same("together", more, x.of(0, 2) + x.of(1, 2) + x.of(2, 2) - before);
        check.same("33 and 66", more, 99);
        check.same("one step more", x.about(6), 4);
    }
}
