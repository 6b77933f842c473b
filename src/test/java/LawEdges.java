/** Promises 9 to 11 and how sums are worked. */
final class LawEdges {
    private final Check check;

    LawEdges(Check check) {
        this.check = check;
    }

    void test() {
        theTextRules();
        noOtherText();
        smokeLaw();
        smokeOthers();
        costLaw();
        costNames();
        costOthers();
        fromTheLeft();
        division();
        cutAtEachStep();
        bothSidesAndChoice();
    }

    private void theTextRules() {
        check.says(9, "THE TEXT (NONE: none): true.");
        BreathOnLoan x = new BreathOnLoan();
        check.yes("none of none", x.by(-1));
        for (int i = 0; i < 4; i++) {
            Check.read(x, "smoke " + i + ";");
        }
        check.same("none rules", x.about(5), -1);
        check.same("smoke without", x.smoke(0), 40);
        for (int i = 3; i >= 0; i--) {
            check.yes("by " + i, x.by(i));
            check.same("it rules", x.about(5), i);
            check.same("by its smoke", x.smoke(0), i);
        }
        check.yes("none again", x.by(-1));
        check.same("none rules then", x.about(5), -1);
        check.same("smoke without again", x.smoke(0), 40);
        check.same("it is no step", x.about(6), 0);
    }

    private void noOtherText() {
        check.says(9, "False for others.");
        check.refuses("by", Scene::fresh, (x, n) -> x.by(n) ? 1 : 0, 0, 0, -2);
        check.refuses("by", Scene::busy, (x, n) -> x.by(n) ? 1 : 0, 0, 2, 3, -2);
        check.refuses("by", Scene::full, (x, n) -> x.by(n) ? 1 : 0, 0, 4, -2);
        BreathOnLoan x = Scene.full();
        x.by(3);
        x.back();
        check.no("a text that was read behind the image", x.by(3));
        check.yes("the last one of the image", x.by(2));
    }

    private void smokeLaw() {
        check.says(0, "SMOKE: how many breaths the furnace allows in an HOUR: smoke (0 at least, 40 at most; without: 40)");
        check.sum("0-1", 0);
        check.sum("0-9999*9999", 0);
        check.sum("0", 0);
        check.sum("1", 1);
        check.sum("39", 39);
        check.sum("40", 40);
        check.sum("41", 40);
        check.sum("9999*9999", 40);
        check.same("no text", new BreathOnLoan().smoke(0), 40);
        check.same("a text without", Check.ruledBy("cost 5;wait 1;").smoke(0), 40);
        check.same("an empty text", Check.ruledBy("").smoke(0), 40);
        BreathOnLoan x = Check.ruledBy("cost 1;");
        Check.read(x, "smoke 3;");
        check.same("that of a text that doesn't rule", x.smoke(0), 40);
    }

    private void smokeOthers() {
        check.says(10, "SMOKE of an HOUR (0 .. 999).");
        BreathOnLoan x = Check.ruledBy("smoke hour-970;");
        check.same("0", x.smoke(0), 0);
        check.same("971", x.smoke(971), 1);
        check.same("999", x.smoke(999), 29);
        x.later(9);
        check.same("an hour that has gone by", x.smoke(0), 0);
        check.same("0 without", new BreathOnLoan().smoke(0), 40);
        check.same("999 without", new BreathOnLoan().smoke(999), 40);
        check.leaves("to ask", Scene::busy, y -> y.smoke(999), 0);
        check.says(10, "NONE for others.");
        check.refuses("smoke", Scene::fresh, BreathOnLoan::smoke, -1, -1, 1000);
        check.refuses("smoke", Scene::busy, BreathOnLoan::smoke, -1, -1, 1000);
        check.refuses("smoke", Scene::full, BreathOnLoan::smoke, -1, -1, 1000);
    }

    private void costOf(String sum, int due) {
        BreathOnLoan x = Check.ruledBy("cost " + sum + ";");
        x.blower(7, 3, 55);
        check.same("cost " + sum, x.cost(0, 12), due);
    }

    private void costLaw() {
        check.says(0, "COST of a breath of a BLOWER in an HOUR: cost (0 at least, 99 at most; without: 1)");
        costOf("0-1", 0);
        costOf("0-9999*9999", 0);
        costOf("0", 0);
        costOf("1", 1);
        costOf("98", 98);
        costOf("99", 99);
        costOf("100", 99);
        costOf("9999*9999", 99);
        BreathOnLoan x = new BreathOnLoan();
        x.blower(1, 0, 0);
        check.same("no text", x.cost(0, 0), 1);
        Check.read(x, "smoke 3;");
        x.by(0);
        check.same("a text without", x.cost(0, 0), 1);
        Check.read(x, "cost 3;");
        check.same("that of a text that doesn't rule", x.cost(0, 0), 1);
    }

    private void costNames() {
        check.says(11, "COST of a breath of a BLOWER (BEADS as now) in an HOUR (0 .. 999).");
        costOf("hour", 12);
        costOf("blower", 0);
        costOf("lungs", 7);
        costOf("voice", 3);
        costOf("beads", 55);
        BreathOnLoan x = Check.ruledBy("cost beads+10*blower+hour-900;");
        x.blower(9, 0, 940);
        x.blower(9, 0, 950);
        x.kind(9, 0, 0);
        x.begin(0);
        check.same("0 in 0", x.cost(0, 0), 40);
        check.same("1 in 0", x.cost(1, 0), 60);
        check.same("0 in 59", x.cost(0, 59), 99);
        check.same("0 in 999", x.cost(0, 999), 99);
        x.blow(0, 0, 1);
        check.same("beads are 900 now", x.cost(0, 0), 0);
        check.same("in 7", x.cost(0, 7), 7);
        x.undo();
        check.same("940 again", x.cost(0, 0), 40);
        x.later(5);
        check.same("an hour that has gone by", x.cost(0, 0), 40);
        check.leaves("to ask", Scene::busy, y -> y.cost(2, 999), 2);
    }

    private void costOthers() {
        check.says(11, "NONE for others.");
        check.refuses("cost of", Scene::fresh, (x, n) -> x.cost(n, 0), -1, 0, -1);
        check.refuses("cost of", Scene::busy, (x, n) -> x.cost(n, 0), -1, 3, -1);
        check.refuses("cost of", Scene::full, (x, n) -> x.cost(n, 0), -1, 6, -1);
        check.refuses("cost in", Scene::busy, (x, n) -> x.cost(2, n), -1, -1, 1000);
        check.refuses("cost in", Scene::full, (x, n) -> x.cost(0, n), -1, -1, 1000);
        check.same("the last blower", Scene.full().cost(5, 999), 3);
    }

    private void fromTheLeft() {
        check.says(0, "From the left");
        check.sum("20-5-3", 12);
        check.sum("20-5+3", 18);
        check.sum("40/4/5", 2);
        check.sum("7/2*2", 6);
        check.sum("2*7/4", 3);
        check.sum("30-2*3-4", 20);
        check.sum("1-2-3+30", 26);
    }

    private void division() {
        check.says(0, "/ cuts towards 0, by 0 it is 0");
        check.sum("7/2", 3);
        check.sum("8/2", 4);
        check.sum("1/2", 0);
        check.sum("-7/2+9", 6);
        check.sum("7/-2+9", 6);
        check.sum("-7/-2", 3);
        check.sum("-1/2+9", 9);
        check.sum("7/0", 0);
        check.sum("7/0+3", 3);
        check.sum("-7/0+3", 3);
        check.sum("0/0+3", 3);
        check.sum("7/(3-3)*9+5", 5);
        check.sum("7/(hour-7)+5", 5);
        check.sum("7/(hour-8)+9", 2);
    }

    /** 999*1000+999 is one less than what is cut. */
    private void cutAtEachStep() {
        check.says(0, "what is above 1000000 (below the same less) is that, at each step");
        check.sum("999*1000+999-(999*1000+998)", 1);
        check.sum("999*1000+999+1-(999*1000+999)", 1);
        check.sum("999*1000+999+2-(999*1000+999)", 1);
        check.sum("1000*1000-(999*1000+999)", 1);
        check.sum("1000*1001-(999*1000+999)", 1);
        check.sum("9999*9999-(999*1000+999)", 1);
        check.sum("1000*1000*(1000*1000)-(999*1000+999)", 1);
        check.sum("1000*1000+1000*1000-(999*1000+999)", 1);
        check.sum("1000*1000*2/2-(499*1000+999)", 1);
        check.sum("1000*1000*3/2-(499*1000+999)", 1);
        check.sum("-(999*1000+999)+(999*1000+999)+5", 5);
        check.sum("-(999*1000+999)-1+(999*1000+999)+5", 4);
        check.sum("-(999*1000+999)-2+(999*1000+999)+5", 4);
        check.sum("-1000*1000+(999*1000+999)+5", 4);
        check.sum("-1000*1001+(999*1000+999)+5", 4);
        check.sum("-9999*9999+(999*1000+999)+5", 4);
        check.sum("-1000*1000*(1000*1000)+(999*1000+999)+5", 4);
        check.sum("-1000*1000-1000*1000+(999*1000+999)+5", 4);
        check.sum("1000*1000--1000*1000-(999*1000+999)", 1);
        check.sum("-(-1000*1001)-(999*1000+999)", 1);
        check.sum("if 1000*1001=1000*1000?1:2 end", 1);
        check.sum("if 999*1000+999=1000*1000?1:2 end", 2);
    }

    private void bothSidesAndChoice() {
        check.says(0, "or and and look at both sides always");
        check.sum("if 1=1 or 1/0=1?3:4 end", 3);
        check.sum("if 1=2 and 1/0=1?3:4 end", 4);
        check.sum("if 1=2 or 1=1 and 2=2?3:4 end", 3);
        check.says(0, "of if just the SUM that is chosen is worked");
        check.sum("if hour=7?3:4/0 end", 3);
        check.sum("if hour=8?3/0:4 end", 4);
        check.sum("if hour=7?if hour=8?1:2 end:if hour=7?3:4 end end", 2);
        check.sum("if hour=8?if hour=8?1:2 end:if hour=7?3:4 end end", 3);
        check.sum("10+if hour=8?1:2 end*if hour=7?3:4 end-1", 15);
        for (String choice : new String[] {"if hour=7?3:4 end", "if hour=7?1+2:4 end", "if hour=7?3:4+5 end", "if hour=8?4:3 end",
            "if hour=8?4:1+2 end", "if hour=8?4+5:3 end", "if hour+0=7?3:4 end"}) {
            check.sum(choice + "+10", 13);
            check.sum(choice + "-1-1", 1);
            check.sum("1+" + choice + "+10", 14);
            check.sum("1+1+" + choice + "+10", 15);
            check.sum("1+1*" + choice + "*2", 7);
        }
    }
}
