import java.util.List;
import java.util.function.Consumer;

/** Promises 28 and 29: the image. */
final class ImageEdges {
    private final Check check;

    ImageEdges(Check check) {
        this.check = check;
    }

    void test() {
        imageIsAllAsItIs();
        eachIsSoAgain();
        butTheTape();
        butTheLatestFault();
        imageStays();
        imageIsTheLatest();
        fullImage();
    }

    private static BreathOnLoan kept() {
        BreathOnLoan x = Scene.busy();
        x.image();
        return x;
    }

    private void imageIsAllAsItIs() {
        check.says(28, "THE IMAGE is as all is now: HOUR.");
        BreathOnLoan x = Scene.busy();
        check.same("hour", x.image(), 1);
        check.yes("nothing is changed by it", Look.NEAR.at(x).equals(Look.NEAR.at(Scene.busy())));
        check.yes("no step is lost", Look.STEPS.at(kept()).equals(Look.STEPS.at(Scene.busy())));
        check.same("hour of a new one", new BreathOnLoan().image(), 0);
        check.same("the last hour", Scene.full().image(), 999);
    }

    private void again(String what, Consumer<BreathOnLoan> deed) {
        for (Look look : new Look[] {Look.NEAR, Look.STEPS}) {
            BreathOnLoan x = kept();
            deed.accept(x);
            check.same(what + ": back", x.back(), 1);
            List<String> seen = look.at(x);
            check.yes(what + ": " + look, seen.equals(look.at(kept())));
        }
    }

    private void eachIsSoAgain() {
        check.says(0, "BACK: all is so again");
        check.says(29, "BACK to THE IMAGE");
        again("nothing", x -> { });
        again("a blower", x -> x.blower(1, 1, 1));
        again("a kind", x -> x.kind(1, 1, 1));
        again("a quarrel", x -> x.quarrel(1, 2, true));
        again("no quarrel", x -> x.quarrel(0, 1, false));
        again("a rule", x -> x.by(1));
        again("no rule", x -> x.by(-1));
        again("a piece", x -> x.begin(1));
        again("a bubble", x -> x.blow(2, 1, 4));
        again("an hour", x -> x.later(1));
        again("many hours", x -> x.later(99));
        again("a sale", x -> x.sell(0));
        again("an undo", x -> x.undo());
        again("undos and others", x -> {
            for (int i = 0; i < 12; i++) {
                x.undo();
            }
            x.later(40);
            x.begin(2);
        });
        again("others blown", x -> {
            for (int i = 0; i < 12; i++) {
                x.undo();
            }
            x.begin(2);
            x.begin(2);
            x.begin(2);
            x.begin(2);
            for (int i = 0; i < 6; i++) {
                x.blow(3 - i / 2, 2 - i / 2, 1);
            }
            x.later(1);
        });
        again("a script", x -> x.played(1));
        again("one seen", x -> x.seen(40));
        again("none seen", x -> x.seen(-1));
        again("others seen", x -> {
            x.seen(-1);
            x.seen(1);
            x.seen(1);
        });
        again("one told", x -> x.tell(2, 2, 2, 2));
        BreathOnLoan x = kept();
        x.text();
        x.by(2);
        x.back();
        check.same("a text", x.about(4), 2);
        check.same("its rule", x.about(5), 0);
        check.no("it can't rule", x.by(2));
        check.same("another has its number", Check.read(x, "smoke 2;"), 2);
        x.by(2);
        check.same("and its own law", x.smoke(0), 2);
    }

    private void butTheTape() {
        check.says(0, "AN IMAGE: all as it is, but the tape");
        BreathOnLoan x = Scene.busy();
        x.back();
        check.same("eight bytes yet", x.about(9), 8);
        check.same("they are a text", x.text(), 1);
        x.by(1);
        check.same("its smoke", x.smoke(0), 7);
        BreathOnLoan y = kept();
        y.end(0);
        y.back();
        check.same("no bytes yet", y.about(9), 0);
    }

    private void butTheLatestFault() {
        check.says(0, "and the latest FAULT");
        BreathOnLoan x = new BreathOnLoan();
        x.image();
        Check.read(x, "cost many;");
        x.back();
        check.same("fault", x.fault(0), 5);
        check.same("place", x.fault(1), 5);
        x.image();
        Check.read(x, "");
        x.back();
        check.same("no fault", x.fault(0), 0);
        check.same("no place", x.fault(1), -1);
    }

    private void imageStays() {
        check.says(29, "(it stays): HOUR.");
        BreathOnLoan x = Scene.busy();
        for (int turn = 0; turn < 3; turn++) {
            check.same("back", x.back(), 0);
            check.same("hour", x.about(3), 0);
            check.same("pieces", x.about(2), 1);
            check.same("steps", x.about(6), 3);
            check.same("beads", x.of(0, 2), 94);
            x.later(9);
            x.undo();
            x.begin(1);
            x.blow(1, 1, 4);
            x.sell(0);
            x.quarrel(0, 1, turn == 0);
            x.seen(turn);
        }
    }

    private void imageIsTheLatest() {
        BreathOnLoan x = new BreathOnLoan();
        x.later(1);
        check.same("image", x.image(), 1);
        x.later(1);
        check.same("another", x.image(), 2);
        x.later(1);
        check.same("back to the latest", x.back(), 2);
        check.same("two steps", x.about(6), 2);
        check.same("one is taken back", x.undo(), 1);
        check.same("the image is as it was", x.back(), 2);
    }

    private void fullImage() {
        for (Look look : new Look[] {Look.NEAR, Look.STEPS}) {
            BreathOnLoan x = Scene.full();
            x.image();
            for (int i = 0; i < 30; i++) {
                x.undo();
            }
            x.seen(-1);
            x.by(3);
            x.quarrel(0, 5, true);
            check.same("back", x.back(), 999);
            check.yes("all is so again: " + look, look.at(x).equals(look.at(Scene.full())));
        }
    }
}
