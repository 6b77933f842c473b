/** Promises 16, 17, 28 and 29: scripts, steps taken back, the image. */
public final class StepTest {
    private static final Check CHECK = new Check();

    public static void main(String[] args) {
        aScriptIsPlayed();
        aScriptEndsWhereItCannotGoOn();
        stepsAreTakenBack();
        thirtyStepsAreKept();
        whatWasToldStays();
        theImageIsGoneBackTo();
        tapeAndFaultAreNotInTheImage();
        CHECK.finish("StepTest");
    }

    private static BreathOnLoan furnace() {
        BreathOnLoan x = new BreathOnLoan();
        x.blower(9, 0, 99);
        x.blower(5, 1, 50);
        x.kind(9, 3, 100);
        x.kind(5, 0, 50);
        return x;
    }

    private static void aScriptIsPlayed() {
        BreathOnLoan x = furnace();
        Check.read(x, "smoke 0;begin 0;wait 2;blow 0 by 1 give 5;share 0;blow 0 by 0 give 4;wait 99;");
        CHECK.same("all is done", x.played(0), -1);
        CHECK.same("hour", x.about(3), 101);
        CHECK.same("done", x.piece(0, 1), 1);
        CHECK.same("first bubble's hour", x.bubble(0, 3), 2);
        CHECK.same("steps", x.about(6), 30);
        CHECK.same("it does not rule", x.smoke(0), 40);
        CHECK.same("played(1)", x.played(1), -2);
        CHECK.same("played(-1)", x.played(-1), -2);
        Check.read(x, "");
        CHECK.same("an empty one", x.played(1), -1);
        Check.read(x, "smoke 1;cost 1;");
        CHECK.same("laws alone", x.played(2), -1);
    }

    private static void aScriptEndsWhereItCannotGoOn() {
        BreathOnLoan x = furnace();
        Check.read(x, "cost 3;begin 1;begin 2;begin 1;");
        CHECK.same("no such kind", x.played(0), 2);
        CHECK.same("what was done stays", x.about(2), 1);
        Check.read(x, "blow 0 by 1 give 4;smoke 4;blow 0 by 1 give 2;");
        CHECK.same("no lungs", x.played(1), 2);
        CHECK.same("4 breaths", x.piece(0, 2), 4);
        Check.read(x, "wait 99;wait 99;wait 99;wait 99;wait 99;wait 99;wait 99;wait 99;wait 99;wait 99;wait 9;wait 1;");
        CHECK.same("999", x.played(2), 11);
        CHECK.same("the last hour", x.about(3), 999);
        Check.read(x, "begin 0;wait 5;");
        CHECK.same("beyond", x.played(3), 1);
        x.undo();
        x.undo();
        CHECK.same("998", x.about(3), 998);
        CHECK.same("a wait is whole or not at all", x.played(3), 1);
        CHECK.same("998 yet", x.about(3), 998);
    }

    private static void stepsAreTakenBack() {
        BreathOnLoan x = furnace();
        CHECK.same("none", x.undo(), -1);
        x.begin(1);
        x.blow(0, 0, 3);
        x.later(2);
        x.blow(0, 1, 2);
        x.sell(0);
        CHECK.same("beads of 0", x.of(0, 2), 126);
        CHECK.same("the sale", x.undo(), 5);
        CHECK.same("beads of 0", x.of(0, 2), 96);
        CHECK.same("beads of 1", x.of(1, 2), 48);
        CHECK.same("not sold", x.piece(0, 3), 0);
        CHECK.same("the bubble", x.undo(), 4);
        CHECK.same("beads of 1", x.of(1, 2), 50);
        CHECK.same("blown again", x.piece(0, 1), 0);
        CHECK.same("given", x.of(1, 3), 0);
        CHECK.same("an hour", x.undo(), 3);
        CHECK.same("1", x.about(3), 1);
        CHECK.same("none given in 1", x.of(0, 3), 0);
        CHECK.same("an hour", x.undo(), 2);
        CHECK.same("0", x.about(3), 0);
        CHECK.same("given in 0", x.of(0, 3), 3);
        CHECK.same("beyond his lungs with those", x.blow(0, 0, 7), -1);
        CHECK.same("the bubble", x.undo(), 1);
        CHECK.same("no bubbles", x.bubble(-1, 0), 0);
        CHECK.same("beads of 0", x.of(0, 2), 99);
        CHECK.same("the piece", x.undo(), 0);
        CHECK.same("no pieces", x.about(2), 0);
        CHECK.same("none", x.undo(), -1);
        CHECK.same("begun anew", x.begin(0), 0);
        CHECK.same("of the other kind", x.piece(0, 0), 0);
    }

    private static void thirtyStepsAreKept() {
        BreathOnLoan x = furnace();
        x.begin(0);
        x.later(31);
        x.begin(1);
        CHECK.same("30", x.about(6), 30);
        for (int i = 29; i >= 0; i--) {
            CHECK.same("undo", x.undo(), i);
        }
        CHECK.same("no more", x.undo(), -1);
        CHECK.same("hour", x.about(3), 2);
        CHECK.same("the first piece", x.about(2), 1);
        x.later(1);
        CHECK.same("one again", x.undo(), 0);
    }

    private static void whatWasToldStays() {
        BreathOnLoan x = furnace();
        Check.read(x, "cost 2;");
        x.by(0);
        x.begin(1);
        x.blow(0, 1, 2);
        x.later(1);
        x.by(-1);
        x.blower(4, 2, 40);
        x.kind(7, 0, 7);
        x.quarrel(0, 2, true);
        x.seen(3);
        x.tell(2, 1, 1, 1);
        CHECK.same("the hour", x.undo(), 2);
        CHECK.same("the bubble, at its old cost", x.undo(), 1);
        CHECK.same("beads", x.of(1, 2), 50);
        CHECK.same("the piece", x.undo(), 0);
        CHECK.same("blowers", x.about(0), 3);
        CHECK.same("his beads", x.of(2, 2), 40);
        CHECK.same("kinds", x.about(1), 3);
        CHECK.same("quarrels", x.of(2, 4), 1);
        CHECK.same("seen", x.about(7), 1);
        CHECK.same("told", x.about(8), 1);
        CHECK.same("texts", x.about(4), 1);
        CHECK.same("none rules", x.about(5), -1);
    }

    private static void theImageIsGoneBackTo() {
        BreathOnLoan x = furnace();
        Check.read(x, "smoke 9;cost 2;");
        x.by(0);
        x.begin(1);
        x.later(1);
        x.blow(0, 0, 3);
        x.seen(5);
        x.tell(0, 0, 4, 1);
        CHECK.same("image", x.image(), 1);
        x.blow(0, 1, 2);
        x.sell(0);
        x.later(5);
        x.quarrel(0, 1, true);
        x.blower(1, 1, 1);
        x.kind(1, 1, 1);
        Check.read(x, "smoke 2;");
        x.by(1);
        x.seen(6);
        x.seen(7);
        x.tell(1, 0, 4, 1);
        for (int i = 0; i < 9; i++) {
            x.undo();
        }
        for (int turn = 0; turn < 2; turn++) {
            CHECK.same("back", x.back(), 1);
            int[] about = {2, 2, 1, 1, 1, 0, 3, 1, 1, 0, 100, 50, -2};
            for (int what = 0; what < about.length; what++) {
                CHECK.same("about(" + what + ") then", x.about(what), about[what]);
            }
            CHECK.same("given", x.of(0, 3), 3);
            CHECK.same("beads", x.of(0, 2), 93);
            CHECK.same("no quarrels", x.of(0, 4), 0);
            CHECK.same("smoke", x.smoke(0), 9);
            CHECK.same("liars", x.liars(), 1);
            CHECK.same("steps go back from there", x.undo(), 2);
            CHECK.same("beads before", x.of(0, 2), 99);
            CHECK.same("no bubbles", x.bubble(-1, 0), 0);
            x.begin(0);
            x.quarrel(0, 1, true);
            x.seen(-1);
            x.by(-1);
        }
        CHECK.same("a new image", x.image(), 1);
        x.later(3);
        CHECK.same("back to it", x.back(), 1);
        CHECK.same("none rules in it", x.about(5), -1);
        CHECK.same("its pieces", x.about(2), 2);
    }

    private static void tapeAndFaultAreNotInTheImage() {
        BreathOnLoan x = new BreathOnLoan();
        x.feed(1, 2, 3, 4, 5);
        x.image();
        Check.read(x, "smoke many;");
        x.feed(0, 0, 0, 0, 0);
        x.feed(0, 0, 0, 0, 0);
        x.back();
        CHECK.same("the tape stays", x.about(9), 40);
        CHECK.same("the fault stays", x.fault(0), 5);
        CHECK.same("its place too", x.fault(1), 6);
    }
}
