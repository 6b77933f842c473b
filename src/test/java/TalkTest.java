/** Promises 21 and 23 to 27: odds, what was seen and told, coughs. */
public final class TalkTest {
    private static final Check CHECK = new Check();

    public static void main(String[] args) {
        oddsAreInLowestTerms();
        oddsWantDonePieces();
        seenHasEdges();
        setsAreFound();
        tellHasEdges();
        liarsAreFound();
        coughsAreDrawn();
        CHECK.finish("TalkTest");
    }

    private static void oddsAreInLowestTerms() {
        BreathOnLoan x = Check.ruledBy("brittle worth+quarrels*2+many-1+hour;cost 0;");
        for (int b = 0; b < 3; b++) {
            x.blower(9, 0, 0);
        }
        x.kind(3, 0, 2);
        x.kind(3, 0, 4);
        x.kind(1, 0, 0);
        x.kind(1, 0, 30);
        x.begin(0);
        x.begin(1);
        x.begin(2);
        x.begin(3);
        x.blow(0, 0, 1);
        x.blow(0, 1, 1);
        x.blow(0, 2, 1);
        x.blow(1, 0, 2);
        x.blow(1, 0, 1);
        x.blow(2, 2, 1);
        x.blow(3, 2, 1);
        pair(x, 0, 1, 1);
        pair(x, 1, 3, 5);       // 2 + 3 - 1 = 4
        pair(x, 2, 3, 5);       // 4 + 1 - 1 = 4
        pair(x, 4, 1, 1);       // 0
        pair(x, 3, 9, 25);
        pair(x, 8, 0, 1);       // 10 at most
        pair(x, 15, 0, 1);
        x.quarrel(0, 1, true);
        pair(x, 1, 2, 5);
        x.quarrel(1, 2, true);
        x.quarrel(0, 2, true);
        pair(x, 1, 0, 1);
        pair(x, 2, 3, 5);
        x.quarrel(0, 2, false);
        pair(x, 1, 1, 5);
        x.later(1);
        pair(x, 2, 1, 2);
        pair(x, 4, 9, 10);
        pair(x, 6, 9, 20);
        x.by(-1);
        pair(x, 15, 1, 1);
        BreathOnLoan y = Check.ruledBy("brittle 0-3;");
        y.blower(9, 0, 9);
        y.kind(1, 0, 1);
        y.begin(0);
        y.blow(0, 0, 1);
        pair(y, 1, 1, 1);
        BreathOnLoan z = Check.ruledBy("brittle 7;cost 0;");
        z.blower(9, 0, 0);
        z.kind(1, 0, 1);
        for (int p = 0; p < 10; p++) {
            z.begin(0);
            z.later(1);
            z.blow(p, 0, 1);
        }
        pair(z, 1023, 59049L, 10000000000L);
        CHECK.same("an eleventh", z.odds(1024, 0), -1);
    }

    private static void oddsWantDonePieces() {
        BreathOnLoan x = new BreathOnLoan();
        x.blower(9, 0, 99);
        x.kind(2, 0, 1);
        x.begin(0);
        x.begin(0);
        x.begin(0);
        x.blow(0, 0, 2);
        x.blow(1, 0, 3);
        x.sell(0);
        pair(x, 1, 1, 1);
        CHECK.same("a bell", x.odds(2, 0), -1);
        CHECK.same("not begun to be blown", x.odds(4, 0), -1);
        CHECK.same("one of two", x.odds(3, 0), -1);
        CHECK.same("not begun", x.odds(8, 0), -1);
        CHECK.same("-1", x.odds(-1, 0), -1);
        CHECK.same("least", x.odds(Integer.MIN_VALUE, 0), -1);
        CHECK.same("what 2", x.odds(1, 2), -1);
        CHECK.same("what -1", x.odds(1, -1), -1);
    }

    private static void pair(BreathOnLoan x, int set, long upper, long lower) {
        CHECK.same("upper of " + set, x.odds(set, 0), upper);
        CHECK.same("lower of " + set, x.odds(set, 1), lower);
    }

    private static void seenHasEdges() {
        BreathOnLoan x = new BreathOnLoan();
        CHECK.same("41", x.seen(41), -2);
        CHECK.same("-2", x.seen(-2), -2);
        for (int i = 1; i <= 8; i++) {
            CHECK.same("seen " + i, x.seen(i % 2 == 0 ? 0 : 40), i);
        }
        CHECK.same("the ninth", x.seen(1), -2);
        CHECK.same("nothing any more", x.seen(-1), 0);
        CHECK.same("anew", x.seen(1), 1);
    }

    private static void setsAreFound() {
        BreathOnLoan x = new BreathOnLoan();
        x.seen(0);
        CHECK.same("nobody", x.whose(-1), 0);
        for (int lungs : new int[] {4, 4, 2, 9}) {
            x.blower(lungs, 0, 0);
        }
        sets(x, 1, 2, 4, 8);
        x.seen(4);
        sets(x, 1, 2, 8);
        x.seen(6);
        sets(x, 3, 5, 6, 8);
        x.seen(3);
        sets(x, 3, 5, 6, 8);
        x.seen(10);
        sets(x, 7, 9, 10, 12);
        x.seen(15);
        sets(x, 13, 14, 11);
        x.seen(18);
        sets(x);
        CHECK.same("whose(-2)", x.whose(-2), -1);
        x.seen(-1);
        sets(x);
    }

    private static void sets(BreathOnLoan x, int... due) {
        java.util.Arrays.sort(due);
        CHECK.same("how many sets", x.whose(-1), due.length);
        for (int i = 0; i < due.length; i++) {
            CHECK.same("set " + i, x.whose(i), due[i]);
        }
        CHECK.same("no more sets", x.whose(due.length), -1);
    }

    private static void tellHasEdges() {
        BreathOnLoan x = new BreathOnLoan();
        CHECK.same("nobody", x.tell(0, 0, 1, 0), -1);
        x.blower(1, 0, 0);
        int[][] bad = {{-1, 0, 1, 0}, {1, 0, 1, 0}, {0, -1, 1, 0}, {0, 10, 1, 0}, {0, 0, 0, 0}, {0, 0, 10, 0},
            {0, 0, 1, -1}, {0, 0, 1, 1000}};
        for (int[] t : bad) {
            CHECK.same("bad tell", x.tell(t[0], t[1], t[2], t[3]), -1);
        }
        for (int i = 1; i <= 20; i++) {
            CHECK.same("tell " + i, x.tell(0, i % 10, 1 + i % 9, i % 2 * 999), i);
        }
        CHECK.same("the 21st", x.tell(0, 0, 1, 0), -1);
        CHECK.same("he lies", x.liars(), 1);
    }

    private static void liarsAreFound() {
        BreathOnLoan x = new BreathOnLoan();
        for (int b = 0; b < 4; b++) {
            x.blower(9, 0, 99);
        }
        x.kind(30, 0, 0);
        x.begin(0);
        x.begin(0);
        x.blow(0, 0, 2);
        x.blow(0, 0, 3);
        x.blow(1, 1, 4);
        x.later(2);
        x.blow(0, 1, 4);
        x.tell(0, 0, 4, 0);
        x.tell(0, 0, 1, 0);
        x.tell(1, 1, 4, 0);
        x.tell(1, 0, 3, 2);
        CHECK.same("nobody", x.liars(), 0);
        x.tell(2, 9, 1, 0);
        CHECK.same("a piece that was not begun", x.liars(), 4);
        x.tell(1, 0, 1, 1);
        CHECK.same("the wrong hour", x.liars(), 6);
        x.tell(0, 0, 1, 0);
        CHECK.same("one too many together", x.liars(), 7);
        x.tell(3, 1, 4, 0);
        CHECK.same("another's breaths", x.liars(), 15);
        x.undo();
        CHECK.same("all four", x.liars(), 15);
        BreathOnLoan y = new BreathOnLoan();
        y.blower(9, 0, 9);
        y.kind(9, 0, 0);
        y.begin(0);
        y.tell(0, 0, 2, 0);
        CHECK.same("ahead of it", y.liars(), 1);
        y.blow(0, 0, 2);
        CHECK.same("true now", y.liars(), 0);
        y.undo();
        CHECK.same("taken back", y.liars(), 1);
    }

    private static void coughsAreDrawn() {
        BreathOnLoan x = new BreathOnLoan();
        CHECK.same("nobody", x.coughs(0, 1, 1, 0), -1);
        x.blower(1, 0, 0);
        x.blower(1, 0, 0);
        // seed 0: 5, 942, 20024, 12021, 8422 ..
        int[][] due = {{0, 1, 5, 0, 0}, {0, 1, 6, 0, 1}, {0, 1, 2, 1, 0}, {0, 1, 3, 1, 1}, {0, 2, 4, 0, 0}, {0, 2, 5, 0, 1},
            {0, 2, 6, 0, 2}, {0, 2, 1, 1, 0}, {0, 2, 2, 1, 1}, {0, 2, 3, 1, 2}, {0, 3, 3, 0, 1}, {0, 30, 10, 0, 30}, {9999, 30, 10, 1, 30}};
        for (int[] d : due) {
            CHECK.same("coughs(" + d[0] + ", " + d[1] + ", " + d[2] + ", " + d[3] + ")",
                    x.coughs(d[0], d[1], d[2], d[3]), d[4]);
        }
        int[][] bad = {{-1, 1, 1, 0}, {10000, 1, 1, 0}, {0, 0, 1, 0}, {0, 31, 1, 0}, {0, 1, 0, 0}, {0, 1, 11, 0},
            {0, 1, 1, -1}, {0, 1, 1, 2}};
        for (int[] b : bad) {
            CHECK.same("bad coughs", x.coughs(b[0], b[1], b[2], b[3]), -1);
        }
        CHECK.same("nothing is changed", x.of(0, 3) + x.about(3) + x.about(6), 0);
    }
}
