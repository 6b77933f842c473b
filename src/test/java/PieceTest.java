/** Promises 12 to 15, 19 and 20: pieces, bubbles, hours and sales. */
public final class PieceTest {
    private static final Check CHECK = new Check();

    public static void main(String[] args) {
        tenPiecesCanBeBegun();
        aBubbleNeedsAllItNeeds();
        statesFollowTheBreaths();
        hoursGoByToTheLast();
        fortyBubblesAreKept();
        salesAreSharedByBreaths();
        salesAreSharedByTheLaw();
        beadsAboveTheMostAreLost();
        piecesAndBubblesAreTold();
        CHECK.finish("PieceTest");
    }

    private static void tenPiecesCanBeBegun() {
        BreathOnLoan x = new BreathOnLoan();
        CHECK.same("no kind", x.begin(0), -1);
        x.kind(1, 0, 0);
        CHECK.same("begin(-1)", x.begin(-1), -1);
        CHECK.same("begin(1)", x.begin(1), -1);
        for (int i = 0; i < 10; i++) {
            CHECK.same("begin " + i, x.begin(0), i);
        }
        CHECK.same("the eleventh", x.begin(0), -1);
        CHECK.same("steps", x.about(6), 10);
    }

    private static void aBubbleNeedsAllItNeeds() {
        BreathOnLoan x = Check.ruledBy("smoke 6;cost 2;");
        x.blower(5, 0, 11);
        x.blower(9, 0, 999);
        x.kind(30, 0, 0);
        x.kind(1, 0, 0);
        x.begin(0);
        x.begin(1);
        CHECK.same("no such piece", x.blow(2, 0, 1), -1);
        CHECK.same("piece -1", x.blow(-1, 0, 1), -1);
        CHECK.same("no such blower", x.blow(0, 2, 1), -1);
        CHECK.same("blower -1", x.blow(0, -1, 1), -1);
        CHECK.same("0 breaths", x.blow(0, 0, 0), -1);
        CHECK.same("-1 breaths", x.blow(0, 0, -1), -1);
        CHECK.same("10 breaths", x.blow(0, 1, 10), -1);
        CHECK.same("beyond his lungs", x.blow(0, 0, 6), -1);
        CHECK.same("beyond the smoke", x.blow(0, 1, 7), -1);
        CHECK.same("nothing happened", x.about(6), 2);
        CHECK.same("all his lungs", x.blow(0, 0, 5), 0);
        CHECK.same("his beads are less", x.of(0, 2), 1);
        CHECK.same("what he has given", x.of(0, 3), 5);
        CHECK.same("no lungs are left", x.blow(0, 0, 1), -1);
        CHECK.same("too much smoke for both", x.blow(0, 1, 2), -1);
        CHECK.same("the last of the smoke", x.blow(1, 1, 1), 1);
        CHECK.same("an hour later", x.later(1), 1);
        CHECK.same("he has given none in it", x.of(0, 3), 0);
        CHECK.same("he has no beads for it", x.blow(0, 0, 1), -1);
        CHECK.same("a piece that is done", x.blow(1, 1, 1), -1);
        x.by(-1);
        CHECK.same("one bead for one breath", x.blow(0, 0, 1), 0);
        CHECK.same("no beads", x.of(0, 2), 0);
        CHECK.same("none for the next", x.blow(0, 0, 1), -1);
        BreathOnLoan y = Check.ruledBy("cost 0;");
        y.blower(1, 0, 0);
        y.kind(1, 0, 0);
        y.begin(0);
        CHECK.same("for nothing", y.blow(0, 0, 1), 1);
    }

    private static void statesFollowTheBreaths() {
        BreathOnLoan x = new BreathOnLoan();
        x.blower(9, 0, 99);
        x.blower(9, 2, 99);
        x.kind(4, 5, 0);
        x.kind(4, 0, 0);
        x.kind(2, 8, 0);
        for (int k : new int[] {0, 0, 0, 1, 1, 2}) {
            x.begin(k);
        }
        CHECK.same("below", x.blow(0, 0, 3), 0);
        CHECK.same("want with both voices", x.blow(0, 1, 1), 1);
        CHECK.same("want with one voice", x.blow(1, 0, 4), 2);
        CHECK.same("a bell", x.piece(1, 1), 2);
        CHECK.same("a bell is blown no more", x.blow(1, 1, 1), -1);
        x.later(1);
        CHECK.same("below", x.blow(2, 0, 3), 0);
        CHECK.same("above with both voices", x.blow(2, 1, 2), 2);
        CHECK.same("want without voices", x.blow(3, 0, 4), 1);
        CHECK.same("above", x.blow(4, 1, 5), 2);
        CHECK.same("a voice that nobody has", x.blow(5, 0, 2), 2);
    }

    private static void hoursGoByToTheLast() {
        BreathOnLoan x = new BreathOnLoan();
        CHECK.same("later(0)", x.later(0), -1);
        CHECK.same("later(-1)", x.later(-1), -1);
        CHECK.same("later(100)", x.later(100), -1);
        CHECK.same("later(most)", x.later(Integer.MAX_VALUE), -1);
        CHECK.same("later(1)", x.later(1), 1);
        CHECK.same("one step", x.about(6), 1);
        for (int i = 1; i <= 10; i++) {
            CHECK.same("later(99)", x.later(99), 1 + 99 * i);
        }
        CHECK.same("30 steps", x.about(6), 30);
        CHECK.same("beyond 999", x.later(9), -1);
        CHECK.same("it stays", x.about(3), 991);
        CHECK.same("to 999", x.later(8), 999);
        CHECK.same("no more", x.later(1), -1);
    }

    private static void fortyBubblesAreKept() {
        BreathOnLoan x = new BreathOnLoan();
        x.blower(9, 0, 999);
        x.kind(30, 0, 0);
        x.begin(0);
        x.begin(0);
        for (int i = 0; i < 40; i++) {
            if (i % 9 == 0) {
                x.later(1);
            }
            CHECK.same("bubble " + i, x.blow(i / 25, 0, 1), 0);
        }
        x.later(1);
        CHECK.same("the 41st", x.blow(1, 0, 1), -1);
        CHECK.same("40 are kept", x.bubble(-1, 0), 40);
        x.undo();
        x.undo();
        CHECK.same("one was taken back", x.bubble(-1, 0), 39);
        CHECK.same("so another fits", x.blow(1, 0, 1), 0);
    }

    private static void salesAreSharedByBreaths() {
        BreathOnLoan x = new BreathOnLoan();
        x.blower(9, 0, 20);
        x.blower(9, 0, 20);
        x.blower(9, 0, 20);
        x.kind(7, 0, 100);
        x.begin(0);
        CHECK.same("not done", x.sell(0), -1);
        x.blow(0, 0, 4);
        x.blow(0, 2, 3);
        CHECK.same("sell(-1)", x.sell(-1), -1);
        CHECK.same("sell(1)", x.sell(1), -1);
        CHECK.same("not yet", x.piece(0, 3), 0);
        CHECK.same("57 and 42", x.sell(0), 99);
        CHECK.same("16 and 57", x.of(0, 2), 73);
        CHECK.same("he gave none", x.of(1, 2), 20);
        CHECK.same("17 and 42", x.of(2, 2), 59);
        CHECK.same("sold", x.piece(0, 3), 1);
        CHECK.same("done yet", x.piece(0, 1), 1);
        CHECK.same("once", x.sell(0), -1);
        x.begin(0);
        x.blow(1, 1, 8);
        CHECK.same("a bell is not sold", x.sell(1), -1);
    }

    private static void salesAreSharedByTheLaw() {
        BreathOnLoan x = Check.ruledBy("share breaths*10+kind*100+want-worth+blower*3-lungs+voice+beads+hour;cost 0;");
        x.blower(9, 2, 90);
        x.blower(8, 1, 5);
        x.kind(1, 0, 0);
        x.kind(6, 0, 100);
        x.begin(1);
        x.blow(0, 0, 2);
        x.later(7);
        x.blow(0, 1, 4);
        // 0: 20+100+6-100+0-9+2+90+7 = 116, 99 at most; 1: 40+100+6-100+3-8+1+5+7 = 54
        CHECK.same("by 99 and 54 of 153", x.sell(0), 64 + 35);
        CHECK.same("64 more", x.of(0, 2), 154);
        CHECK.same("35 more", x.of(1, 2), 40);
        BreathOnLoan z = Check.ruledBy("share if blower=0?1000:1 end;cost 0;");
        z.blower(9, 0, 0);
        z.blower(9, 0, 0);
        z.kind(2, 0, 999);
        z.begin(0);
        z.blow(0, 0, 1);
        z.blow(0, 1, 1);
        CHECK.same("by 99 and 1 of 100", z.sell(0), 989 + 9);
        CHECK.same("999 times 99 by 100", z.of(0, 2), 989);
        CHECK.same("999 times 1 by 100", z.of(1, 2), 9);
        BreathOnLoan y = Check.ruledBy("share 0-breaths;");
        y.blower(9, 0, 9);
        y.kind(2, 0, 100);
        y.begin(0);
        y.blow(0, 0, 2);
        CHECK.same("without shares nobody", y.sell(0), 0);
        CHECK.same("but it is sold", y.piece(0, 3), 1);
        CHECK.same("not again", y.sell(0), -1);
        CHECK.same("it is a step", y.undo(), 2);
        CHECK.same("not sold", y.piece(0, 3), 0);
    }

    private static void beadsAboveTheMostAreLost() {
        BreathOnLoan x = new BreathOnLoan();
        x.blower(9, 0, 990);
        x.blower(9, 0, 999);
        x.kind(2, 0, 999);
        x.begin(0);
        x.blow(0, 0, 1);
        x.blow(0, 1, 1);
        CHECK.same("10 and 1", x.sell(0), 11);
        CHECK.same("999", x.of(0, 2), 999);
        CHECK.same("999 too", x.of(1, 2), 999);
        x.undo();
        CHECK.same("989 again", x.of(0, 2), 989);
        CHECK.same("998 again", x.of(1, 2), 998);
    }

    private static void piecesAndBubblesAreTold() {
        BreathOnLoan x = new BreathOnLoan();
        x.blower(9, 0, 99);
        x.blower(9, 1, 99);
        x.kind(9, 0, 0);
        x.kind(9, 0, 0);
        x.begin(1);
        x.begin(0);
        x.blow(0, 1, 2);
        x.later(3);
        x.blow(0, 0, 3);
        x.blow(1, 1, 4);
        x.blow(0, 1, 1);
        int[][] pieces = {{0, 0, 1}, {0, 1, 0}, {0, 2, 6}, {0, 3, 0}, {0, 10, 3}, {0, 11, 3}, {0, 12, -1}, {0, 4, -1},
            {0, 9, -1}, {0, -1, -1}, {1, 0, 0}, {1, 2, 4}, {1, 10, 0}, {1, 11, 4}, {2, 0, -1}, {-1, 0, -1},
            {0, Integer.MAX_VALUE, -1}, {0, Integer.MIN_VALUE, -1}};
        for (int[] p : pieces) {
            CHECK.same("piece(" + p[0] + ", " + p[1] + ")", x.piece(p[0], p[1]), p[2]);
        }
        int[][] log = {{0, 1, 2, 0}, {0, 0, 3, 3}, {1, 1, 4, 3}, {0, 1, 1, 3}};
        for (int i = 0; i < 4; i++) {
            for (int what = 0; what < 4; what++) {
                CHECK.same("bubble(" + i + ", " + what + ")", x.bubble(i, what), log[i][what]);
            }
        }
        CHECK.same("how many", x.bubble(-1, 0), 4);
        CHECK.same("bubble(4, 0)", x.bubble(4, 0), -1);
        CHECK.same("bubble(-2, 0)", x.bubble(-2, 0), -1);
        CHECK.same("bubble(0, 4)", x.bubble(0, 4), -1);
        CHECK.same("bubble(0, -1)", x.bubble(0, -1), -1);
    }
}
