/** Promises 9 to 11: the text that rules, smoke and cost, and how sums are worked. */
public final class LawTest {
    private static final Check CHECK = new Check();

    public static void main(String[] args) {
        theRulingTextCanBeChosen();
        smokeHasEdges();
        costHasEdges();
        sumsAreWorkedFromTheLeft();
        sumsAreCutAtAMillion();
        asksAreAnswered();
        CHECK.finish("LawTest");
    }

    private static void theRulingTextCanBeChosen() {
        BreathOnLoan x = new BreathOnLoan();
        CHECK.no("by(0) without texts", x.by(0));
        CHECK.yes("by none", x.by(-1));
        Check.read(x, "smoke 3;");
        Check.read(x, "cost 7;");
        x.blower(1, 0, 0);
        CHECK.same("none rules at first", x.smoke(0), 40);
        CHECK.yes("by(0)", x.by(0));
        CHECK.same("smoke by 0", x.smoke(0), 3);
        CHECK.same("cost by 0", x.cost(0, 0), 1);
        CHECK.yes("by(1)", x.by(1));
        CHECK.same("smoke by 1", x.smoke(0), 40);
        CHECK.same("cost by 1", x.cost(0, 0), 7);
        CHECK.no("by(2)", x.by(2));
        CHECK.no("by(-2)", x.by(-2));
        CHECK.same("it stays", x.about(5), 1);
        CHECK.yes("none again", x.by(-1));
        CHECK.same("cost without", x.cost(0, 0), 1);
    }

    private static void smokeHasEdges() {
        BreathOnLoan x = Check.ruledBy("smoke hour-5;");
        int[][] due = {{0, 0}, {5, 0}, {6, 1}, {45, 40}, {46, 40}, {999, 40}, {1000, -1}, {-1, -1}};
        for (int[] d : due) {
            CHECK.same("smoke(" + d[0] + ")", x.smoke(d[0]), d[1]);
        }
    }

    private static void costHasEdges() {
        BreathOnLoan x = Check.ruledBy("cost blower*1000+beads-lungs*voice+hour;");
        x.blower(3, 2, 50);
        x.blower(1, 1, 0);
        CHECK.same("cost", x.cost(0, 4), 48);
        CHECK.same("99 at most", x.cost(0, 999), 99);
        CHECK.same("99 at most of 1", x.cost(1, 0), 99);
        CHECK.same("of nobody", x.cost(2, 0), -1);
        CHECK.same("of NONE", x.cost(-1, 0), -1);
        CHECK.same("hour 1000", x.cost(0, 1000), -1);
        CHECK.same("hour -1", x.cost(0, -1), -1);
        x.kind(9, 0, 1);
        x.begin(0);
        x.blow(0, 0, 1);
        CHECK.same("beads as now", x.cost(0, 4), 4);
        BreathOnLoan y = Check.ruledBy("cost 0-5;");
        y.blower(1, 0, 0);
        CHECK.same("0 at least", y.cost(0, 0), 0);
    }

    private static void sumsAreWorkedFromTheLeft() {
        CHECK.sum("20-5-3", 12);
        CHECK.sum("2+3*4", 14);
        CHECK.sum("(2+3)*4", 20);
        CHECK.sum("100/10/5", 2);
        CHECK.sum("7/2*2", 6);
        CHECK.sum("0-7/2+10", 7);
        CHECK.sum("(0-7)/2+10", 7);
        CHECK.sum("-7/2+10", 7);
        CHECK.sum("10- -3", 13);
        CHECK.sum("--5", 5);
        CHECK.sum("-2*-3", 6);
        CHECK.sum("5/0+1", 1);
        CHECK.sum("9/(3-3)*4+2", 2);
        CHECK.sum("if 1<2?3:4 end+10", 13);
        CHECK.sum("if 2<1?3:4 end*2", 8);
        CHECK.sum("if 1=1?if 1=2?3:4 end:5 end", 4);
        CHECK.sum("if 1=2?if 1=2?3:4 end:5 end", 5);
        CHECK.sum("hour*3", 21);
    }

    private static void sumsAreCutAtAMillion() {
        CHECK.sum("1000*1000-9999*100-90", 10);
        CHECK.sum("9999*9999-9999*100-90", 10);
        CHECK.sum("9999*9999*9999/9999-75", 25);
        CHECK.sum("-9999*9999+9999*100+120", 20);
        CHECK.sum("9999*100+99+9999-9999*100-90", 10);
        CHECK.sum("0-9999*9999-9999+9999*100+120", 20);
        CHECK.sum("-(9999*9999)+9999*9999+5", 5);
    }

    private static void asksAreAnswered() {
        ask("1<2", true);
        ask("2<2", false);
        ask("2<=2", true);
        ask("3<=2", false);
        ask("3>2", true);
        ask("2>2", false);
        ask("2>=2", true);
        ask("1>=2", false);
        ask("2=2", true);
        ask("2=3", false);
        ask("2#3", true);
        ask("2#2", false);
        ask("not 2#2", true);
        ask("not not 2#2", false);
        ask("not 1=2 and 1=2", false);
        ask("1=1 or 1=1 and 1=2", true);
        ask("1=2 and 1=1 or 1=1", true);
        ask("1=2 or 1=2", false);
        ask("1=1 and not 1=2 and 3>2", true);
        ask("1+1=2*1", true);
    }

    private static void ask(String ask, boolean due) {
        BreathOnLoan x = Check.ruledBy("smoke if " + ask + "?1:2 end;");
        CHECK.same(ask, x.smoke(0), due ? 1 : 2);
    }
}
