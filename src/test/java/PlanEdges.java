/** Promise 22: plans. */
final class PlanEdges {
    private static final int NO_PLAN = -1000000;
    private final Check check;

    PlanEdges(Check check) {
        this.check = check;
    }

    void test() {
        fourKinds();
        oneWorkOfEach();
        fromTheHourOn();
        theEnd();
        inSomeOrder();
        someLeftOut();
        teams();
        oneBehindTheOther();
        lungsAndSmoke();
        theLastBreaths();
        theLowerGivesFirst();
        voicesOfThoseWhoGave();
        allSixInAllHours();
        hoursBelowTheEnd();
        leftOver();
        beadsAreNotAsked();
        fewerWorks();
        theLowestKindFirst();
        theLowestTeam();
        thenTheSecond();
        answers();
        planOthers();
    }

    private static BreathOnLoan ruled(String text, int... lungs) {
        BreathOnLoan x = Check.ruledBy(text);
        for (int l : lungs) {
            x.blower(l, 0, 0);
        }
        return x;
    }

    /** What is left over, how many works, and each of them. */
    private void plan(String what, BreathOnLoan x, int kinds, int end, int left, int... works) {
        check.same(what + ": left over", x.plan(kinds, end, -1), left);
        check.same(what + ": works", x.plan(kinds, end, -2), works.length);
        for (int i = 0; i < works.length; i++) {
            check.same(what + ": work " + i, x.plan(kinds, end, i), works[i]);
        }
        check.same(what + ": no more works", x.plan(kinds, end, works.length), NO_PLAN);
    }

    private static BreathOnLoan six() {
        BreathOnLoan x = ruled("", 9);
        for (int k = 0; k < 6; k++) {
            x.kind(1, 0, 11);
        }
        return x;
    }

    private void fourKinds() {
        check.says(0, "PLAN for a set of KINDS (4 at most,");
        plan("four", six(), 15, 24, 40, 0, 100, 200, 300);
        plan("four others", six(), 0b111100, 24, 40, 200, 300, 400, 500);
        for (int kinds : new int[] {0b11111, 0b111110, 0b111111, 0b101111}) {
            for (int what = -2; what <= 0; what++) {
                int w = what;
                check.leaves("plan(" + kinds + ", 24, " + w + ")", PlanEdges::six, x -> x.plan(kinds, 24, w), NO_PLAN);
            }
        }
        plan("no kinds", six(), 0, 24, 0);
        plan("no kinds of none", new BreathOnLoan(), 0, 1, 0);
    }

    private void oneWorkOfEach() {
        check.says(0, "one work of each)");
        plan("one", six(), 1, 24, 10, 0);
        plan("two", six(), 3, 24, 20, 0, 100);
    }

    private void fromTheHourOn() {
        check.says(0, "from HOUR on, until an HOUR");
        BreathOnLoan x = ruled("cost if hour=5?1:9 end;", 9);
        x.kind(1, 0, 20);
        plan("in hour 0", x, 1, 24, 11, 0);
        x.later(5);
        plan("in hour 5", x, 1, 24, 19, 0);
        x.later(1);
        plan("in hour 6", x, 1, 24, 11, 0);
    }

    private void theEnd() {
        check.says(0, "(the END, 1 to 24 later)");
        plan("1", six(), 7, 1, 10, 0);
        BreathOnLoan x = ruled("", 1);
        x.kind(24, 0, 100);
        x.kind(25, 0, 100);
        plan("24", x, 1, 24, 76, 0);
        plan("23 is not enough", x, 1, 23, 0);
        plan("nor 24 for 25", x, 2, 24, 0);
        check.refuses("end", PlanEdges::six, (y, n) -> y.plan(1, n, -1), NO_PLAN, 0, -1, 25);
        check.refuses("end, works", PlanEdges::six, (y, n) -> y.plan(1, n, -2), NO_PLAN, 0, -1, 25);
        check.refuses("end, first", PlanEdges::six, (y, n) -> y.plan(1, n, 0), NO_PLAN, 0, -1, 25);
        check.refuses("end without kinds", Scene::fresh, (y, n) -> y.plan(0, n, -1), NO_PLAN, 0, 25);
    }

    private void inSomeOrder() {
        check.says(0, "works one behind the other in some order");
        BreathOnLoan x = ruled("cost if hour=0?9:1 end;", 9);
        x.kind(9, 0, 100);
        x.kind(1, 0, 100);
        plan("the small one while it is dear", x, 3, 24, 200 - 9 - 9, 100, 0);
        BreathOnLoan y = ruled("cost 3*hour;", 9);
        y.kind(1, 0, 50);
        y.kind(9, 0, 50);
        y.kind(4, 0, 50);
        plan("the greatest first", y, 7, 24, 150 - 12 - 6, 100, 200, 0);
    }

    private void someLeftOut() {
        check.says(0, "some of them left out");
        BreathOnLoan x = ruled("", 9);
        x.kind(5, 0, 4);
        x.kind(5, 0, 6);
        x.kind(5, 0, 7);
        plan("what costs more", x, 7, 24, 3, 100, 200);
        plan("no hour is left for it", x, 7, 1, 2, 200);
        plan("all of them", x, 1, 24, 0);
        plan("nobody is there", ruledWithKind(), 1, 24, 0);
    }

    private static BreathOnLoan ruledWithKind() {
        BreathOnLoan x = new BreathOnLoan();
        x.kind(1, 0, 99);
        return x;
    }

    private void teams() {
        check.says(0, "each by a TEAM (one BLOWER or two unlike ones, no more)");
        BreathOnLoan x = ruled("", 5, 5, 5);
        x.kind(5, 0, 100);
        x.kind(6, 0, 100);
        x.kind(10, 0, 100);
        x.kind(11, 0, 100);
        plan("one is enough", x, 1, 1, 95, 0);
        plan("two are needed", x, 2, 1, 94, 101);
        plan("two are enough", x, 4, 1, 90, 201);
        plan("three can't", x, 8, 1, 0);
        plan("in two hours", x, 8, 2, 89, 301);
        BreathOnLoan y = ruled("", 5);
        y.kind(6, 0, 100);
        plan("one is not two", y, 1, 1, 0);
        BreathOnLoan z = ruled("", 1, 1, 1, 1, 9, 9);
        z.kind(18, 0, 100);
        plan("the last two", z, 1, 1, 82, 45);
    }

    private void oneBehindTheOther() {
        check.says(0, "from the HOUR on in which the one ahead of it ended (the next HOUR then; the first from HOUR on)");
        plan("one hour", six(), 3, 1, 10, 0);
        plan("two hours", six(), 3, 2, 20, 0, 100);
        plan("three hours for four", six(), 15, 3, 30, 0, 100, 200);
        plan("four hours for four", six(), 15, 4, 40, 0, 100, 200, 300);
        BreathOnLoan x = ruled("cost hour;", 1);
        x.kind(2, 0, 50);
        x.kind(3, 0, 50);
        plan("0 and 1, then 2, 3 and 4", x, 3, 24, 100 - 10, 0, 100);
        plan("no free hour between", x, 3, 5, 90, 0, 100);
        plan("one hour less", x, 3, 4, 49, 0);
    }

    private void lungsAndSmoke() {
        check.says(0, "in each HOUR it gets as many breaths as LUNGS of the TEAM together and SMOKE allow");
        BreathOnLoan x = ruled("cost hour;", 5, 4);
        x.kind(20, 0, 500);
        plan("9, 9 and 2", x, 1, 3, 500 - 9 - 4, 1);
        plan("5, 5, 5 and 5 would be more", x, 1, 24, 487, 1);
        BreathOnLoan y = ruled("smoke if hour=1?0:if hour=2?9:10 end end;cost hour;", 9, 9);
        y.kind(20, 0, 500);
        plan("10, none, 9 and 1", y, 1, 4, 500 - 18 - 3, 1);
        plan("two are as one in hours 2 and 3", y, 1, 3, 0);
        BreathOnLoan z = ruled("smoke 40*hour;", 9);
        z.kind(9, 0, 50);
        plan("no smoke in the only hour", z, 1, 1, 0);
        plan("it waits for it", z, 1, 2, 41, 0);
        BreathOnLoan w = ruled("smoke 0;", 9);
        w.kind(1, 0, 50);
        plan("never any smoke", w, 1, 24, 0);
    }

    private void theLastBreaths() {
        check.says(0, "the last ones no more than WANT");
        BreathOnLoan x = ruled("cost 2;", 9, 9);
        x.kind(10, 0, 100);
        plan("9 and 1 of 18", x, 1, 1, 80, 1);
        plan("9 and then 1 of 9", x, 1, 2, 80, 0);
    }

    private void theLowerGivesFirst() {
        check.says(0, "the lower BLOWER gives first, as much as he can");
        BreathOnLoan x = ruled("cost if blower=0?9:1 end;", 4, 9);
        x.kind(10, 0, 100);
        plan("4 of the lower, 6 of the other", x, 1, 1, 100 - 36 - 6, 1);
        BreathOnLoan y = ruled("smoke 3;cost if blower=0?9:1 end;", 2, 9);
        y.kind(4, 0, 100);
        plan("alone he is cheap", y, 1, 2, 96, 11);
        BreathOnLoan z = ruled("smoke if hour=0?5:1 end;cost if blower=0?9:1 end;", 2, 3);
        z.kind(6, 0, 100);
        plan("2 and 3, then 1 of the lower", z, 1, 2, 100 - 18 - 3 - 9, 1);
    }

    private void voicesOfThoseWhoGave() {
        check.says(0, "it must be DONE (WANT, each of its VOICES that of one of the TEAM who gave some)");
        BreathOnLoan x = new BreathOnLoan();
        x.blower(5, 0, 0);
        x.blower(5, 1, 0);
        x.blower(5, 2, 0);
        x.kind(5, 3, 100);
        x.kind(6, 3, 100);
        x.kind(6, 7, 100);
        x.kind(5, 4, 100);
        x.kind(6, 4, 100);
        plan("the lower gives all five", x, 1, 24, 0);
        plan("five and one", x, 2, 24, 94, 101);
        plan("three voices", x, 4, 24, 0);
        plan("by him alone", x, 8, 24, 95, 322);
        plan("the sixth is his", x, 16, 1, 94, 402);
        plan("or by him alone, later", x, 16, 2, 94, 402);
        BreathOnLoan y = ruled("", 5);
        y.kind(5, 1, 100);
        y.kind(5, 2, 100);
        plan("his voice", y, 1, 1, 95, 0);
        plan("another voice", y, 2, 24, 0);
        BreathOnLoan z = ruled("smoke 40*hour;cost if blower=0?9:1 end;", 1);
        z.blower(1, 1, 0);
        z.kind(1, 1, 30);
        z.kind(1, 2, 30);
        z.kind(1, 4, 30);
        z.kind(2, 3, 30);
        z.kind(2, 2, 30);
        plan("one breath is some, of the lower", z, 1, 24, 21, 0);
        plan("of the other one", z, 2, 24, 29, 111);
        plan("nobody's voice, nor in an hour without smoke", z, 4, 24, 0);
        plan("one breath each", z, 8, 24, 20, 301);
        plan("0 has not that voice", z, 16, 24, 28, 411);
    }

    private void allSixInAllHours() {
        BreathOnLoan x = Check.ruledBy("smoke 2;cost 7-blower;");
        for (int b = 0; b < 6; b++) {
            x.blower(1, b % 4, 0);
            x.kind(12, 1 << b % 4, 100 + b);
        }
        // by two each work takes 6 hours; 2, 3 and (4 or 5) have a voice alone, 5 and 4 are the cheapest
        plan("24 hours for four", x, 0b111100, 24, 102 + 103 + 104 + 105 - 6 * (7 + 6 + 5 + 5), 225, 335, 445, 545);
        plan("one hour less", x, 0b111100, 23, 103 + 104 + 105 - 6 * (6 + 5 + 5), 335, 445, 545);
    }

    private void hoursBelowTheEnd() {
        check.says(0, "in HOURS below HOUR + END (and 1000)");
        BreathOnLoan x = ruled("smoke if hour=7?1:0 end;", 9);
        x.kind(1, 0, 9);
        plan("7 isn't below 7", x, 1, 7, 0);
        plan("7 is below 8", x, 1, 8, 8, 0);
        x.later(3);
        plan("7 isn't below 3 + 4", x, 1, 4, 0);
        plan("7 is below 3 + 5", x, 1, 5, 8, 0);
        BreathOnLoan y = ruled("", 1);
        y.kind(1, 0, 9);
        y.kind(2, 0, 30);
        for (int i = 0; i < 10; i++) {
            y.later(99);
        }
        y.later(7);
        plan("997, 998 and 999", y, 3, 24, 36, 0, 100);
        y.later(1);
        plan("998 and 999", y, 3, 24, 28, 100);
        y.later(1);
        plan("999", y, 3, 24, 8, 0);
        plan("999 alone", y, 3, 1, 8, 0);
    }

    private void leftOver() {
        check.says(0, "LEFT OVER: WORTH of all that are DONE less COST of all breaths");
        BreathOnLoan x = ruled("cost 3;", 9);
        x.kind(9, 0, 28);
        x.kind(9, 0, 27);
        x.kind(9, 0, 26);
        plan("one more than it costs", x, 1, 24, 1, 0);
        plan("as much as it costs", x, 2, 24, 0);
        plan("one less than it costs", x, 4, 24, 0);
        plan("all", x, 7, 24, 1, 0);
        BreathOnLoan y = ruled("cost 99;", 9);
        for (int k = 0; k < 4; k++) {
            y.kind(1, 0, 999);
        }
        plan("four of the most", y, 15, 24, 3600, 0, 100, 200, 300);
        check.says(0, "The most LEFT OVER");
        BreathOnLoan z = ruled("cost if blower=0?5:4 end;", 9, 9);
        z.kind(9, 0, 99);
        plan("the cheaper one", z, 1, 24, 63, 11);
    }

    private void beadsAreNotAsked() {
        check.says(0, "(BEADS aren't asked)");
        BreathOnLoan x = new BreathOnLoan();
        x.blower(9, 0, 0);
        x.kind(9, 0, 99);
        plan("without beads", x, 1, 1, 90, 0);
        BreathOnLoan y = Check.ruledBy("cost beads;");
        y.blower(9, 0, 7);
        y.kind(18, 0, 200);
        plan("the law may ask them, as now", y, 1, 2, 200 - 126, 0);
    }

    private void fewerWorks() {
        check.says(0, "of like ones fewer works");
        BreathOnLoan x = ruled("", 9);
        x.kind(9, 0, 9);
        x.kind(9, 0, 19);
        x.kind(9, 0, 9);
        plan("what leaves nothing over is left out", x, 7, 24, 10, 100);
        plan("nothing at all", x, 5, 24, 0);
        BreathOnLoan y = ruled("smoke 9-9*hour;cost 0;", 9);
        y.kind(1, 0, 0);
        plan("for nothing", y, 1, 24, 0);
        BreathOnLoan z = ruled("cost 0;", 1);
        z.kind(1, 0, 10);
        z.kind(1, 0, 10);
        z.kind(2, 0, 20);
        plan("one that is worth two", z, 7, 2, 20, 200);
        BreathOnLoan w = ruled("", 9);
        w.kind(9, 0, 999);
        w.kind(1, 0, 0);
        w.later(99);
        plan("no wait for a cost that is the same", w, 3, 24, 990, 0);
    }

    private void theLowestKindFirst() {
        check.says(0, "then the lowest KIND of the first one");
        plan("the lowest of all", six(), 0b101010, 1, 10, 100);
        plan("in their order", six(), 0b101010, 3, 30, 100, 300, 500);
        BreathOnLoan x = ruled("", 9, 9);
        x.kind(1, 0, 20);
        x.kind(10, 0, 29);
        plan("ahead of the lowest team", x, 3, 1, 19, 0);
        plan("the lowest kind, its team next", x, 2, 1, 19, 101);
    }

    private void theLowestTeam() {
        check.says(0, "its TEAM (10 times the lower BLOWER and the other one; of one alone: 10 times him and him)");
        BreathOnLoan x = ruled("", 9, 9, 9);
        x.kind(9, 0, 99);
        plan("one alone: 0 and 0", x, 1, 1, 90, 0);
        BreathOnLoan y = ruled("", 4, 9, 9);
        y.kind(9, 0, 99);
        plan("0 and 1", y, 1, 1, 90, 1);
        BreathOnLoan z = ruled("cost if blower=0?9:1 end;", 9, 9, 9);
        z.kind(9, 0, 99);
        z.kind(12, 0, 99);
        plan("1 and 1", z, 1, 1, 90, 11);
        plan("1 and 2", z, 2, 1, 87, 112);
        BreathOnLoan w = ruled("cost if blower<4?9:1 end;", 1, 1, 1, 1, 9, 9);
        w.kind(10, 0, 99);
        plan("4 and 5", w, 1, 1, 89, 45);
        plan("4 and 4", w, 1, 2, 89, 44);
        BreathOnLoan v = ruled("cost if blower=5?0:1 end;", 9, 9, 9, 9, 9, 9);
        for (int k = 0; k < 6; k++) {
            v.kind(9, 0, 9);
        }
        plan("5 and 5", v, 32, 1, 9, 555);
    }

    private void thenTheSecond() {
        check.says(0, "then of the second, ..");
        BreathOnLoan x = ruled("", 1, 5);
        x.kind(5, 0, 15);
        x.kind(5, 0, 15);
        x.kind(5, 0, 15);
        plan("time for one slow work", x, 7, 7, 30, 0, 101, 201);
        plan("for two", x, 7, 11, 30, 0, 100, 201);
        plan("for none", x, 7, 3, 30, 1, 101, 201);
        plan("for all", x, 7, 15, 30, 0, 100, 200);
    }

    private void answers() {
        check.says(22, "PLAN: LEFT OVER (what NONE), how many works (-2); of the i-th work (what 0 ..) 100 times its KIND and its TEAM.");
        plan("six", six(), 0b110011, 24, 40, 0, 100, 400, 500);
        check.leaves("left over", PlanEdges::six, x -> x.plan(3, 24, -1), 20);
        check.leaves("works", PlanEdges::six, x -> x.plan(3, 24, -2), 2);
        check.leaves("the second", PlanEdges::six, x -> x.plan(3, 24, 1), 100);
        // kind 1 for 4 of blower 0 in hour 1 (22), then kind 0 for 5 and 3 of 0 and 1 (44); kind 2 wants 30: 984 less 2 each
        check.leaves("all of a busy one", Scene::busy, x -> x.plan(7, 24, -2), 3);
        check.leaves("left over of a busy one", Scene::busy, x -> x.plan(7, 24, -1), 60 + 30 + 999 - 2 * 42);
    }

    private void planOthers() {
        check.says(22, "-1000000 if there is none such, and for others.");
        for (int what = -2; what <= 0; what++) {
            int w = what;
            check.refuses("kinds of none, " + w, Scene::fresh, (x, n) -> x.plan(n, 24, w), NO_PLAN, -1, 1, 2);
            check.refuses("kinds of three, " + w, Scene::busy, (x, n) -> x.plan(n, 24, w), NO_PLAN, -1, 8, 9, 32);
            check.refuses("kinds of six, " + w, PlanEdges::six, (x, n) -> x.plan(n, 24, w), NO_PLAN, -1, 64, 65);
        }
        check.refuses("what", PlanEdges::six, (x, n) -> x.plan(3, 24, n), NO_PLAN, -3, 2, 3, 4);
        check.refuses("what of all", PlanEdges::six, (x, n) -> x.plan(15, 24, n), NO_PLAN, -3, 4, 5);
        check.refuses("what of none", Scene::fresh, (x, n) -> x.plan(0, 24, n), NO_PLAN, -3, 0, 1);
        check.same("nothing of none is left over", new BreathOnLoan().plan(0, 24, -1), 0);
        check.same("no works", new BreathOnLoan().plan(0, 24, -2), 0);
    }
}
