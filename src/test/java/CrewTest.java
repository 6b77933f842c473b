/** Promises 1 to 4, 18 and 30: a new object, blowers, quarrels, kinds, and what is told of them. */
public final class CrewTest {
    private static final Check CHECK = new Check();

    public static void main(String[] args) {
        aNewObjectIsEmpty();
        blowersHaveEdges();
        quarrelsGoBothWays();
        kindsHaveEdges();
        aboutTellsAll();
        CHECK.finish("CrewTest");
    }

    private static void aNewObjectIsEmpty() {
        BreathOnLoan x = new BreathOnLoan();
        for (int what = 0; what <= 9; what++) {
            CHECK.same("new about(" + what + ")", x.about(what), what == 5 ? -1 : 0);
        }
        CHECK.same("new undo", x.undo(), -1);
        CHECK.same("new of", x.of(0, 0), -1);
        CHECK.same("new piece", x.piece(0, 0), -1);
        CHECK.same("new bubble", x.bubble(-1, 0), 0);
        CHECK.same("new liars", x.liars(), 0);
        x.blower(1, 1, 1);
        x.kind(1, 1, 1);
        x.begin(0);
        CHECK.same("back to the new object", x.back(), 0);
        CHECK.same("no blowers again", x.about(0), 0);
        CHECK.same("no kinds again", x.about(1), 0);
        CHECK.same("no pieces again", x.about(2), 0);
        CHECK.same("no steps again", x.about(6), 0);
    }

    private static void blowersHaveEdges() {
        BreathOnLoan x = new BreathOnLoan();
        int[][] bad = {{0, 0, 0}, {10, 0, 0}, {1, -1, 0}, {1, 4, 0}, {1, 0, -1}, {1, 0, 1000}};
        for (int[] b : bad) {
            CHECK.same("bad blower", x.blower(b[0], b[1], b[2]), -1);
        }
        CHECK.same("least", x.blower(1, 0, 0), 0);
        CHECK.same("most", x.blower(9, 3, 999), 1);
        for (int i = 2; i < 6; i++) {
            CHECK.same("blower " + i, x.blower(i, 1, 10 * i), i);
        }
        CHECK.same("seventh", x.blower(1, 1, 1), -1);
        CHECK.same("lungs", x.of(1, 0), 9);
        CHECK.same("voice", x.of(1, 1), 3);
        CHECK.same("beads", x.of(1, 2), 999);
        CHECK.same("given", x.of(1, 3), 0);
        CHECK.same("quarrels", x.of(1, 4), 0);
        CHECK.same("of 5", x.of(1, 5), -1);
        CHECK.same("of -1", x.of(1, -1), -1);
        CHECK.same("of nobody", x.of(6, 0), -1);
        CHECK.same("of NONE", x.of(-1, 0), -1);
    }

    private static void quarrelsGoBothWays() {
        BreathOnLoan x = new BreathOnLoan();
        x.blower(1, 0, 0);
        x.blower(1, 0, 0);
        x.blower(1, 0, 0);
        CHECK.yes("0 and 2", x.quarrel(0, 2, true));
        CHECK.yes("2 and 1", x.quarrel(2, 1, true));
        CHECK.yes("again", x.quarrel(2, 0, true));
        CHECK.same("of 0", x.of(0, 4), 4);
        CHECK.same("of 1", x.of(1, 4), 4);
        CHECK.same("of 2", x.of(2, 4), 3);
        CHECK.yes("no more", x.quarrel(2, 0, false));
        CHECK.yes("never did", x.quarrel(0, 1, false));
        CHECK.same("of 0 then", x.of(0, 4), 0);
        CHECK.same("of 2 then", x.of(2, 4), 2);
        CHECK.no("with himself", x.quarrel(1, 1, true));
        CHECK.no("with nobody", x.quarrel(0, 3, true));
        CHECK.no("nobody with", x.quarrel(3, 0, true));
        CHECK.no("with NONE", x.quarrel(0, -1, false));
    }

    private static void kindsHaveEdges() {
        BreathOnLoan x = new BreathOnLoan();
        int[][] bad = {{0, 0, 0}, {31, 0, 0}, {1, -1, 0}, {1, 16, 0}, {1, 0, -1}, {1, 0, 1000}};
        for (int[] k : bad) {
            CHECK.same("bad kind", x.kind(k[0], k[1], k[2]), -1);
        }
        CHECK.same("least", x.kind(1, 0, 0), 0);
        CHECK.same("most", x.kind(30, 15, 999), 1);
        for (int i = 2; i < 6; i++) {
            CHECK.same("kind " + i, x.kind(i, i, i), i);
        }
        CHECK.same("seventh", x.kind(1, 1, 1), -1);
        CHECK.same("worth", x.about(11), 999);
        CHECK.same("want and voices", x.about(21), 3015);
        CHECK.same("worth of 5", x.about(15), 5);
        CHECK.same("want and voices of 5", x.about(25), 505);
    }

    private static void aboutTellsAll() {
        BreathOnLoan x = Check.ruledBy("smoke 3;");
        Check.read(x, "wait 1;");
        x.blower(3, 0, 9);
        x.kind(2, 0, 5);
        x.kind(2, 0, 6);
        x.begin(0);
        x.begin(1);
        x.begin(1);
        x.later(4);
        x.seen(3);
        x.seen(4);
        x.tell(0, 0, 1, 0);
        x.feed(0, 0, 0, 0, 0);
        int[] due = {1, 2, 3, 4, 2, 0, 7, 2, 1, 20, 5, 6, -2, -2, -2, -2, -2, -2, -2, -2, 200, 200, -2};
        for (int what = 0; what < due.length; what++) {
            CHECK.same("about(" + what + ")", x.about(what), due[what]);
        }
        CHECK.same("about(-1)", x.about(-1), -2);
        CHECK.same("about(26)", x.about(26), -2);
        CHECK.same("about(most)", x.about(Integer.MAX_VALUE), -2);
        CHECK.same("about(least)", x.about(Integer.MIN_VALUE), -2);
    }
}
