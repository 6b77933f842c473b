import java.util.ArrayList;
import java.util.List;
import java.util.function.Consumer;

/** Promises 16 and 17: scripts and steps taken back. */
final class StepEdges {
    private final Check check;

    StepEdges(Check check) {
        this.check = check;
    }

    void test() {
        clausesInTheirOrder();
        asByHand();
        lawsAreNotPlayed();
        theClauseThatCannotBe();
        beginThatCannotBe();
        blowThatCannotBe();
        waitThatCannotBe();
        whatWasDoneStays();
        allIsDone();
        playedOthers();
        eachIsAStep();
        whatIsNoStep();
        aSaleOfMany();
        eachKeepsItsOwnBeads();
        theLatestFirst();
        thirtySteps();
        theRingGoesAround();
        whatWasToldStays();
        howManyYet();
        noneToTakeBack();
    }

    private static BreathOnLoan with(String script) {
        BreathOnLoan x = new BreathOnLoan();
        x.blower(9, 0, 99);
        x.blower(5, 1, 50);
        x.kind(9, 3, 100);
        x.kind(5, 0, 50);
        Check.read(x, script);
        return x;
    }

    private void clausesInTheirOrder() {
        check.says(0, "PLAYED by a TEXT: its begin, blow and wait clauses, in their order");
        BreathOnLoan x = with("begin 1;begin 0;wait 2;blow 1 by 0 give 4;wait 1;blow 1 by 1 give 5;blow 0 by 0 give 9;");
        check.same("all is done", x.played(0), -1);
        check.same("the first's kind", x.piece(0, 0), 1);
        check.same("the second's kind", x.piece(1, 0), 0);
        check.same("hour", x.about(3), 3);
        check.same("the first bubble's hour", x.bubble(0, 3), 2);
        check.same("the second bubble's hour", x.bubble(1, 3), 3);
        check.same("done", x.piece(1, 1), 1);
        check.same("a bell", x.piece(0, 1), 2);
        check.same("again: the piece is done", x.played(0), 3);
        check.same("two pieces more", x.about(2), 4);
    }

    private void asByHand() {
        check.says(0, "as by hand");
        BreathOnLoan x = with("begin 0;wait 3;blow 0 by 1 give 5;blow 0 by 0 give 4;wait 1;");
        x.played(0);
        BreathOnLoan y = with("begin 0;wait 3;blow 0 by 1 give 5;blow 0 by 0 give 4;wait 1;");
        y.begin(0);
        y.later(3);
        y.blow(0, 1, 5);
        y.blow(0, 0, 4);
        y.later(1);
        check.yes("all looks the same", Look.NEAR.at(x).equals(Look.NEAR.at(y)));
        check.same("steps", x.about(6), 7);
        check.yes("all steps are the same", Look.STEPS.at(x).equals(Look.STEPS.at(y)));
        BreathOnLoan z = with("begin 0;blow 0 by 1 give 4;");
        Check.read(z, "cost 2;smoke 4;");
        z.by(1);
        check.same("by the text that rules", z.played(0), -1);
        check.same("at its cost", z.of(1, 2), 42);
    }

    private void lawsAreNotPlayed() {
        BreathOnLoan x = with("smoke 0;cost 9;share 0;brittle 9;");
        check.same("laws alone", x.played(0), -1);
        check.same("nothing was done", x.about(6), 0);
        check.same("they do not rule", x.smoke(0), 40);
        check.same("the text", x.about(5), -1);
        check.leaves("laws alone", () -> with("smoke 0;"), y -> y.played(0), -1);
        check.leaves("an empty text", () -> with(""), y -> y.played(0), -1);
    }

    private void theClauseThatCannotBe() {
        check.says(0, "one that can't be ends it: its number among all CLAUSES (from 0)");
        check.says(16, "else the number of the CLAUSE that can't be.");
        check.same("the first", with("begin 2;").played(0), 0);
        check.same("behind two laws", with("smoke 1;cost 1;begin 2;begin 0;").played(0), 2);
        check.same("the 24th", with("begin 0;".repeat(10) + "wait 1;".repeat(13) + "begin 0;").played(0), 23);
        check.same("the first of two", with("begin 2;begin 3;").played(0), 0);
        BreathOnLoan x = with("begin 2;begin 0;");
        x.played(0);
        check.same("nothing behind it is done", x.about(2), 0);
    }

    private void beginThatCannotBe() {
        check.same("the last kind that is told", with("begin 1;").played(0), -1);
        check.same("a kind that isn't told", with("begin 2;").played(0), 0);
        BreathOnLoan x = with("begin 5;");
        check.same("not yet", x.played(0), 0);
        for (int k = 0; k < 4; k++) {
            x.kind(1, 0, 0);
        }
        check.same("now it is told", x.played(0), -1);
        check.same("ten pieces", with("begin 0;".repeat(10)).played(0), -1);
        check.same("eleven pieces", with("begin 0;".repeat(11)).played(0), 10);
    }

    private void blowThatCannotBe() {
        check.same("a piece that isn't", with("begin 0;blow 1 by 0 give 1;").played(0), 1);
        check.same("a blower who isn't", with("begin 0;blow 0 by 2 give 1;").played(0), 1);
        check.same("all his lungs", with("begin 0;blow 0 by 1 give 5;").played(0), -1);
        check.same("beyond his lungs", with("begin 0;blow 0 by 1 give 6;").played(0), 1);
        check.same("beyond his lungs in two", with("begin 0;blow 0 by 1 give 3;blow 0 by 1 give 3;").played(0), 2);
        check.same("an hour between", with("begin 0;blow 0 by 1 give 3;wait 1;blow 0 by 1 give 3;").played(0), -1);
        check.same("a piece that is done", with("begin 1;blow 0 by 0 give 5;blow 0 by 1 give 1;").played(0), 2);
        check.same("a bell is no end", with("begin 1;blow 0 by 0 give 6;wait 1;").played(0), -1);
        BreathOnLoan x = with("begin 0;blow 0 by 1 give 5;");
        Check.read(x, "cost 10;smoke 5;");
        Check.read(x, "cost 11;");
        Check.read(x, "smoke 4;");
        x.by(2);
        check.same("no beads for it", x.played(0), 1);
        x.by(3);
        check.same("no smoke for it", x.played(0), 1);
        x.by(1);
        check.same("just so", x.played(0), -1);
    }

    private void waitThatCannotBe() {
        String to990 = "wait 99;".repeat(10);
        check.same("to 999", with(to990 + "wait 9;").played(0), -1);
        BreathOnLoan x = with(to990 + "wait 10;wait 1;");
        check.same("beyond 999", x.played(0), 10);
        check.same("no hour of it goes by", x.about(3), 990);
    }

    private void whatWasDoneStays() {
        check.says(0, "what was done stays");
        BreathOnLoan x = with("begin 0;wait 2;blow 0 by 0 give 3;begin 5;wait 1;");
        check.same("the fourth can't be", x.played(0), 3);
        check.same("the piece", x.about(2), 1);
        check.same("the hours", x.about(3), 2);
        check.same("the breaths", x.piece(0, 2), 3);
        check.same("the beads", x.of(0, 2), 96);
        check.same("the steps", x.about(6), 4);
    }

    private void allIsDone() {
        check.says(16, "PLAYED by a TEXT: NONE: all is done;");
        check.same("one", with("wait 1;").played(0), -1);
        check.same("none", with("").played(0), -1);
        check.same("24", with("wait 1;".repeat(24)).played(0), -1);
        BreathOnLoan x = Scene.full();
        check.same("a full one: no law is a deed", x.played(0), -1);
        check.same("no hour", x.played(1), 0);
        check.same("no piece", x.played(2), 0);
        check.same("no bubble", x.played(3), 0);
    }

    private void playedOthers() {
        check.says(16, "-2 for others.");
        check.refuses("played", Scene::fresh, BreathOnLoan::played, -2, -1, 0);
        check.refuses("played", Scene::busy, BreathOnLoan::played, -2, -1, 2, 3);
        check.refuses("played", Scene::full, BreathOnLoan::played, -2, -1, 4);
        check.leaves("the first can't be", Scene::full, x -> x.played(3), 0);
    }

    private void step(String what, Consumer<BreathOnLoan> deed) {
        BreathOnLoan x = Scene.busy();
        deed.accept(x);
        check.same(what + " is a step", x.about(6), 13);
        check.same(what + " is taken back", x.undo(), 12);
        check.yes(what + " is as if it had not been", Look.NEAR.at(x).equals(Look.NEAR.at(Scene.busy())));
        check.yes(what + " leaves the steps ahead of it", Look.STEPS.at(x).equals(Look.STEPS.at(Scene.busy())));
    }

    private void eachIsAStep() {
        check.says(0, "STEPS: beginning a PIECE, a BUBBLE, an HOUR, a sale");
        step("beginning a piece", x -> x.begin(2));
        step("a bubble", x -> x.blow(2, 1, 4));
        step("an hour", x -> x.later(1));
        step("a sale", x -> x.sell(0));
    }

    private void noStep(String what, Consumer<BreathOnLoan> deed) {
        BreathOnLoan x = Scene.busy();
        deed.accept(x);
        check.same(what + " is no step", x.about(6), 12);
        check.yes(what + " is not taken back", Look.STEPS.at(x).get(0).equals(Look.STEPS.at(Scene.busy()).get(0)));
    }

    private void whatIsNoStep() {
        noStep("a blower", x -> x.blower(1, 0, 0));
        noStep("a kind", x -> x.kind(1, 0, 0));
        noStep("a quarrel", x -> x.quarrel(0, 2, true));
        noStep("a text", x -> x.text());
        noStep("ruling", x -> x.by(1));
        noStep("what is seen", x -> x.seen(1));
        noStep("what is told", x -> x.tell(0, 0, 1, 0));
        noStep("an image", x -> x.image());
        noStep("coughs", x -> x.coughs(1, 1, 1, 1));
        noStep("a plan", x -> x.plan(7, 9, -1));
        noStep("what can't be", x -> x.blow(0, 0, 1));
    }

    private void aSaleOfMany() {
        BreathOnLoan x = with("");
        for (int p = 0; p < 3; p++) {
            x.begin(1);
            x.later(1);
            x.blow(p, 0, 5);
            x.sell(p);
        }
        check.same("the latest sale", x.undo(), 11);
        check.same("0 is sold", x.piece(0, 3), 1);
        check.same("1 is sold", x.piece(1, 3), 1);
        check.same("2 isn't", x.piece(2, 3), 0);
        check.same("it can be sold", x.sell(2), 50);
        check.same("1 can't", x.sell(1), -1);
        BreathOnLoan y = Scene.busy();
        check.same("the sale of 3", y.undo(), 11);
        check.same("3 isn't sold", y.piece(3, 3), 0);
    }

    /** A step that comes where another was taken back, or 30 steps behind it, has nothing of its beads. */
    private void eachKeepsItsOwnBeads() {
        BreathOnLoan x = with("");
        x.begin(0);
        x.blow(0, 0, 3);
        x.undo();
        x.later(1);
        x.undo();
        check.same("an hour in place of a bubble", x.of(0, 2), 99);
        x.blow(0, 0, 3);
        x.undo();
        x.blow(0, 1, 2);
        x.undo();
        check.same("another's bubble", x.of(0, 2), 99);
        check.same("his own", x.of(1, 2), 50);
        BreathOnLoan y = with("");
        y.begin(0);
        y.blow(0, 0, 3);
        y.blow(0, 1, 2);
        y.later(60);
        for (int i = 0; i < 30; i++) {
            y.undo();
        }
        check.same("what is beyond 30 stays paid", y.of(0, 2), 96);
        check.same("by both", y.of(1, 2), 48);
    }

    private void theLatestFirst() {
        check.says(0, "the latest first");
        check.says(17, "The latest STEP is taken back");
        List<Consumer<BreathOnLoan>> deeds = new ArrayList<>();
        deeds.add(x -> x.begin(1));
        deeds.add(x -> x.blow(0, 0, 3));
        deeds.add(x -> x.later(1));
        deeds.add(x -> x.blow(0, 1, 2));
        deeds.add(x -> x.sell(0));
        deeds.add(x -> x.later(1));
        deeds.add(x -> x.begin(0));
        deeds.add(x -> x.blow(1, 0, 9));
        for (int many = 1; many <= deeds.size(); many++) {
            BreathOnLoan x = with("");
            BreathOnLoan due = with("");
            for (int i = 0; i < deeds.size(); i++) {
                deeds.get(i).accept(x);
                if (i < deeds.size() - many) {
                    deeds.get(i).accept(due);
                }
            }
            for (int i = 0; i < many; i++) {
                check.same("undo", x.undo(), deeds.size() - 1 - i);
            }
            check.yes(many + " taken back", Look.NEAR.at(x).equals(Look.NEAR.at(due)));
        }
    }

    private void thirtySteps() {
        check.says(0, "the latest 30 can be taken back");
        BreathOnLoan x = with("");
        x.later(29);
        check.same("29", x.about(6), 29);
        x.later(1);
        check.same("30", x.about(6), 30);
        x.begin(0);
        check.same("31", x.about(6), 30);
        for (int left = 29; left >= 0; left--) {
            check.same("undo", x.undo(), left);
        }
        check.same("no more", x.undo(), -1);
        check.same("the first hour stays", x.about(3), 1);
        check.same("the piece doesn't", x.about(2), 0);
        BreathOnLoan y = with("");
        y.begin(0);
        y.blow(0, 0, 2);
        y.later(30);
        for (int i = 0; i < 30; i++) {
            y.undo();
        }
        check.same("none", y.undo(), -1);
        check.same("the bubble stays", y.piece(0, 2), 2);
        check.same("the hour", y.about(3), 0);
    }

    private void theRingGoesAround() {
        BreathOnLoan x = with("");
        x.later(47);
        for (int i = 0; i < 20; i++) {
            x.undo();
        }
        check.same("ten are left", x.about(6), 10);
        check.same("hour 27", x.about(3), 27);
        x.begin(0);
        x.blow(0, 0, 4);
        x.later(25);
        check.same("30 again", x.about(6), 30);
        for (int i = 0; i < 25; i++) {
            x.undo();
        }
        check.same("hour 27 again", x.about(3), 27);
        check.same("the bubble", x.undo(), 4);
        check.same("its beads are back", x.of(0, 2), 99);
        check.same("the piece", x.undo(), 3);
        check.same("hours", x.undo(), 2);
        x.undo();
        check.same("the last one", x.undo(), 0);
        check.same("hour 24", x.about(3), 24);
        check.same("none", x.undo(), -1);
    }

    private void whatWasToldStays() {
        check.says(0, "(BLOWERS, KINDS, QUARRELS told since stay)");
        BreathOnLoan x = with("");
        x.begin(1);
        x.blow(0, 0, 5);
        x.sell(0);
        x.blower(4, 2, 40);
        x.kind(7, 4, 70);
        x.quarrel(0, 2, true);
        x.quarrel(0, 1, true);
        x.begin(2);
        x.blow(1, 2, 4);
        for (int left = 4; left >= 0; left--) {
            check.same("undo", x.undo(), left);
        }
        check.same("blowers", x.about(0), 3);
        check.same("his lungs", x.of(2, 0), 4);
        check.same("his beads", x.of(2, 2), 40);
        check.same("kinds", x.about(1), 3);
        check.same("its want", x.about(22), 704);
        check.same("quarrels", x.of(0, 4), 6);
        check.same("beads of 0", x.of(0, 2), 99);
        check.same("no pieces", x.about(2), 0);
    }

    private void howManyYet() {
        check.says(17, "how many can be yet.");
        BreathOnLoan x = Scene.full();
        for (int left = 29; left >= 0; left--) {
            check.same("undo", x.undo(), left);
            check.same("about(6)", x.about(6), left);
        }
        check.same("ten bubbles stay", x.bubble(-1, 0), 10);
    }

    private void noneToTakeBack() {
        check.says(17, "NONE: there is none.");
        check.leaves("undo", Scene::fresh, BreathOnLoan::undo, -1);
        check.leaves("undo", () -> with("begin 0;"), BreathOnLoan::undo, -1);
        check.leaves("undo when all are taken back", StepEdges::allTakenBack, BreathOnLoan::undo, -1);
    }

    private static BreathOnLoan allTakenBack() {
        BreathOnLoan x = Scene.busy();
        for (int i = 0; i < 12; i++) {
            x.undo();
        }
        return x;
    }
}
