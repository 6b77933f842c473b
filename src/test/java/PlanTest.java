/** Promise 22: plans. ModelTest holds them against all orders and teams, tried one by one. */
public final class PlanTest {
    private static final int NO_PLAN = -1000000;
    private static final Check CHECK = new Check();

    public static void main(String[] args) {
        wrongPlansAreRefused();
        nothingMayBeBest();
        worksFollowInTheNextHour();
        theLowerOneGivesFirst();
        likePlansAreOrdered();
        hoursEndAt1000();
        smokeAndCostAreThoseOfTheHour();
        CHECK.finish("PlanTest");
    }

    private static void wrongPlansAreRefused() {
        BreathOnLoan x = new BreathOnLoan();
        x.blower(9, 0, 0);
        for (int k = 0; k < 5; k++) {
            x.kind(1, 0, 10);
        }
        for (int what = -2; what <= 0; what++) {
            CHECK.same("kinds -1", x.plan(-1, 9, what), NO_PLAN);
            CHECK.same("a kind that isn't", x.plan(32, 9, what), NO_PLAN);
            CHECK.same("five kinds", x.plan(31, 9, what), NO_PLAN);
            CHECK.same("end 0", x.plan(1, 0, what), NO_PLAN);
            CHECK.same("end 25", x.plan(1, 25, what), NO_PLAN);
            CHECK.same("end -1", x.plan(1, -1, what), NO_PLAN);
        }
        CHECK.same("four kinds", x.plan(30, 24, -1), 36);
        CHECK.same("four works", x.plan(30, 24, -2), 4);
        CHECK.same("what -3", x.plan(30, 24, -3), NO_PLAN);
        CHECK.same("what 4", x.plan(30, 24, 4), NO_PLAN);
        CHECK.same("what 3", x.plan(30, 24, 3), 400);
        CHECK.same("three hours", x.plan(30, 3, -1), 27);
        CHECK.same("nothing is changed", x.about(2) + x.about(3) + x.about(6) + x.of(0, 3), 0);
    }

    private static void nothingMayBeBest() {
        BreathOnLoan x = new BreathOnLoan();
        x.kind(5, 0, 4);
        x.kind(5, 0, 5);
        x.kind(5, 2, 99);
        CHECK.same("nobody", x.plan(7, 24, -1), 0);
        x.blower(9, 0, 0);
        CHECK.same("it would cost more, or as much, or has no voice", x.plan(7, 24, -1), 0);
        CHECK.same("so none", x.plan(7, 24, -2), 0);
        CHECK.same("no first", x.plan(7, 24, 0), NO_PLAN);
        x.blower(1, 1, 0);
        CHECK.same("one of two gives the voice", x.plan(7, 24, -1), 94);
        CHECK.same("alone, as together he gives none", x.plan(7, 24, 0), 211);
    }

    private static void worksFollowInTheNextHour() {
        BreathOnLoan x = new BreathOnLoan();
        x.blower(9, 0, 0);
        x.blower(9, 0, 0);
        x.kind(1, 0, 10);
        x.kind(9, 0, 20);
        x.kind(10, 0, 40);
        CHECK.same("one hour", x.plan(7, 1, -1), 30);
        CHECK.same("by both", x.plan(7, 1, 0), 201);
        CHECK.same("two hours", x.plan(7, 2, -1), 41);
        CHECK.same("first", x.plan(7, 2, 0), 100);
        CHECK.same("second", x.plan(7, 2, 1), 201);
        CHECK.same("three hours", x.plan(7, 3, -1), 50);
        CHECK.same("four hours", x.plan(7, 4, 2), 200);
    }

    private static void theLowerOneGivesFirst() {
        BreathOnLoan x = Check.ruledBy("cost 9-8*blower;");
        x.blower(2, 0, 0);
        x.blower(4, 1, 0);
        x.kind(6, 0, 99);
        x.kind(2, 3, 99);
        CHECK.same("in one hour, both: 2 at 9, 4 at 1", x.plan(1, 1, -1), 99 - 22);
        CHECK.same("in two hours, the cheap one", x.plan(1, 2, -1), 99 - 6);
        CHECK.same("he is 1", x.plan(1, 2, 0), 11);
        CHECK.same("the lower one takes all of two", x.plan(2, 9, -1), 0);
    }

    private static void likePlansAreOrdered() {
        BreathOnLoan x = Check.ruledBy("cost 0;");
        for (int b = 0; b < 6; b++) {
            x.blower(b == 0 ? 1 : 5, 0, 0);
        }
        x.kind(5, 0, 0);
        x.kind(5, 0, 30);
        x.kind(5, 0, 20);
        x.kind(5, 0, 10);
        CHECK.same("60", x.plan(15, 24, -1), 60);
        CHECK.same("fewer works", x.plan(15, 24, -2), 3);
        CHECK.same("the lowest kind and team", x.plan(15, 24, 0), 100);
        CHECK.same("then", x.plan(15, 24, 1), 200);
        CHECK.same("then", x.plan(15, 24, 2), 300);
        CHECK.same("in 3 hours", x.plan(14, 3, 0), 101);
        CHECK.same("in 7 hours the first can take five", x.plan(14, 7, 0), 100);
        CHECK.same("the second not", x.plan(14, 7, 1), 201);
    }

    private static void hoursEndAt1000() {
        BreathOnLoan x = new BreathOnLoan();
        x.blower(1, 0, 0);
        x.kind(2, 0, 10);
        x.kind(1, 0, 5);
        for (int i = 0; i < 10; i++) {
            x.later(99);
        }
        x.later(8);
        CHECK.same("998 and 999", x.plan(3, 24, -1), 8);
        x.later(1);
        CHECK.same("999", x.plan(3, 24, -1), 4);
        CHECK.same("999", x.plan(3, 1, 0), 100);
    }

    private static void smokeAndCostAreThoseOfTheHour() {
        BreathOnLoan x = Check.ruledBy("smoke if hour<3?0:2 end;cost if hour<6?9:1 end;");
        x.blower(9, 0, 0);
        x.blower(9, 0, 0);
        x.kind(2, 0, 99);
        x.kind(6, 0, 10);
        x.kind(1, 0, 0);
        CHECK.same("not in smoke", x.plan(1, 3, -1), 0);
        CHECK.same("in hour 3", x.plan(1, 4, -1), 99 - 18);
        CHECK.same("a dear work ahead of it is not worth the wait", x.plan(3, 24, -1), 99 - 18);
        x.later(5);
        CHECK.same("a work ahead of it, so that it is cheap", x.plan(5, 24, -1), 99 - 2 - 9);
        CHECK.same("that one first", x.plan(5, 24, 0), 200);
        x.kind(6, 0, 50);
        x.begin(3);
        x.later(1);
        x.blower(9, 0, 99);
        x.blow(0, 2, 2);
        CHECK.same("what was given is not asked", x.plan(1, 1, -1), 97);
    }
}
