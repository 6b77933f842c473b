/** Part II of the Terms: which fault is told, and where. */
final class FaultEdges {
    private final Check check;

    FaultEdges(Check check) {
        this.check = check;
    }

    void test() {
        theFirst();
        thePlace();
        theLeast();
        faultOne();
        whatCanStandWhere();
        faultTwo();
        faultThree();
        faultThreeAmongOthers();
        faultFour();
        faultFive();
        faultSix();
        nothingOfTheTextAhead();
    }

    private void stands(String text) {
        check.fault(text, 0, -1);
    }

    private void theFirst() {
        check.says(0, "FAULTS, the first as TOKENS are come to");
        check.fault("smoke want foo;", 5, 6);
        check.fault("smoke 10000 foo", 2, 6);
        check.fault("smoke foo; smoke lungs; begin 6;", 1, 6);
        check.fault("begin 6; smoke foo;", 2, 6);
        check.fault("smoke 1; smoke foo;", 4, 9);
        check.fault("smoke (((((((((foo", 3, 14);
        check.fault("smoke ((((((((foo(((", 1, 14);
        check.fault("smoke ((((((((lungs((", 5, 14);
        check.fault("wait 1;".repeat(24) + "begin foo", 6, 168);
        check.fault("begin 6!", 2, 6);
        check.fault("smoke 1;!begin 6;", 1, 8);
        check.fault("smoke if 1<2?1:lungs;", 5, 15);
    }

    private void thePlace() {
        check.says(0, "at the TOKEN's first byte (of the end at the length)");
        check.fault("", 0, -1);
        check.fault("smoke", 1, 5);
        check.fault("smoke ", 1, 6);
        check.fault("smoke \n \n", 1, 9);
        check.fault("smoke 1", 1, 7);
        check.fault("smoke 1   ", 1, 10);
        check.fault("begin", 1, 5);
        check.fault("blow 1 ", 1, 7);
        check.fault("wait 1 ", 1, 7);
        check.fault("   foo", 1, 3);
        check.fault("\n\nsmoke\n\n  lungs  ;", 5, 11);
        check.fault("smoke  10000  ;", 2, 7);
        check.fault("smoke if 1 <= <= 2", 1, 14);
        check.fault("  smoke 1;  smoke 2;", 4, 12);
        check.fault("wait 1;".repeat(24) + "  wait 1;", 6, 170);
        check.fault("smoke ( ( ( ( ( ( ( (  (", 3, 23);
        check.fault("smoke" + " ".repeat(295), 1, 300);
        check.fault("smoke" + " ".repeat(294) + "!", 1, 299);
    }

    private void theLeast() {
        check.says(0, "of one the least");
        check.fault("10000;", 1, 0);
        check.fault("smoke 1 10000;", 1, 8);
        check.fault("begin 1 10000;", 1, 8);
        check.fault("blow 10000", 2, 5);
        check.fault("blow 0 10000", 1, 7);
        check.fault("smoke ((((((((1(", 1, 15);
        check.fault("smoke if not not not not not not not 1 not", 1, 39);
        check.fault("smoke if not not not not not not not 1 if", 1, 39);
        check.fault("smoke ((((((((not", 1, 14);
        check.fault("smoke 1 lungs;", 1, 8);
        check.fault("begin lungs;", 1, 6);
        check.fault("lungs;", 1, 0);
        check.fault("smoke 1 smoke 1;", 1, 8);
        check.fault("smoke 1;cost 1;begin smoke", 1, 21);
        check.fault("wait 1;".repeat(24) + "foo;", 1, 168);
        check.fault("wait 1;".repeat(24) + ";", 1, 168);
        check.fault("wait 1;".repeat(24) + "10000;", 1, 168);
        check.fault("wait 1;".repeat(24) + "!", 1, 168);
        check.fault("smoke 1;" + "wait 1;".repeat(23) + "smoke 1;", 4, 169);
        check.fault("cost 1;" + "wait 1;".repeat(23) + "cost 1;", 4, 168);
        check.fault("smoke 1;" + "wait 1;".repeat(23) + "cost 1;", 6, 169);
    }

    private void faultOne() {
        check.says(0, "1 it can't stand there, or is none");
        check.fault("smoke ;", 1, 6);
        check.fault("smoke :", 1, 6);
        check.fault("smoke ?", 1, 6);
        check.fault("smoke )", 1, 6);
        check.fault("smoke =", 1, 6);
        check.fault("smoke and", 1, 6);
        check.fault("smoke or", 1, 6);
        check.fault("smoke give", 1, 6);
        check.fault("smoke begin", 1, 6);
        check.fault("if 1<2?1:2 end;", 1, 0);
        check.fault("end;", 1, 0);
        check.fault("hour;", 1, 0);
        check.fault("1;", 1, 0);
        check.fault("(1);", 1, 0);
        check.fault("&", 1, 0);
        check.fault("smoke 1;" + (char) 255, 1, 8);
        check.fault("smoke 1" + (char) 0 + ";", 1, 7);
    }

    private static final String TOKENS = "smoke cost brittle share begin blow wait by give if end or and not hour"
            + " blower lungs voice beads kind want worth breaths quarrels many x 1 < <= > >= = # + - * / ( ) ; ? : ! .";
    private static final String CLAUSE = "smoke cost brittle share begin blow wait";
    private static final String ONE = "1 hour ( - if";
    private static final String MORE = "+ - * /";

    /** Behind these words just these tokens can stand; the other names are faults of their own where hour can stand. */
    private void whatCanStandWhere() {
        canStand("", CLAUSE);
        canStand("wait 1;", CLAUSE);
        for (String before : new String[] {"smoke", "smoke 1+", "smoke 1-", "smoke 1*", "smoke 1/", "smoke -", "smoke (", "smoke if 1<",
            "smoke if 1>=", "smoke if 1#", "smoke if 1<2?", "smoke if 1<2?1:"}) {
            canStand(before, ONE);
        }
        for (String before : new String[] {"smoke if", "smoke if not", "smoke if 1<2 and", "smoke if 1<2 or"}) {
            canStand(before, ONE + " not");
        }
        for (String before : new String[] {"smoke 1", "smoke hour", "smoke (1)", "smoke -1", "smoke if 1<2?1:2 end", "smoke 1+1*1"}) {
            canStand(before, MORE + " ;");
        }
        canStand("smoke (1", MORE + " )");
        canStand("smoke if 1", MORE + " < <= > >= = #");
        canStand("smoke if not hour", MORE + " < <= > >= = #");
        canStand("smoke if 1<2", MORE + " and or ?");
        canStand("smoke if not 1=2", MORE + " and or ?");
        canStand("smoke if 1<2?1", MORE + " :");
        canStand("smoke if 1<2?1:2", MORE + " end");
        for (String before : new String[] {"begin", "blow", "blow 1 by", "blow 1 by 1 give", "wait"}) {
            canStand(before, "1");
        }
        for (String before : new String[] {"begin 1", "blow 1 by 1 give 1", "wait 1"}) {
            canStand(before, ";");
        }
        canStand("blow 1", "by");
        canStand("blow 1 by 1", "give");
    }

    private void canStand(String before, String allowed) {
        int place = before.length() + 1;
        boolean isClause = allowed.equals(CLAUSE);
        check.fault(before + " ", isClause ? 0 : 1, isClause ? -1 : place);
        for (String token : TOKENS.split(" ")) {
            BreathOnLoan x = new BreathOnLoan();
            Check.read(x, before + " " + token);
            boolean isOtherName = isOneOf(token, "blower lungs voice beads kind want worth breaths quarrels many");
            if (isOneOf(token, allowed)) {
                check.yes("behind '" + before + "' stands " + token, x.fault(1) != place);
            } else {
                check.same("fault of " + token + " behind '" + before + "'", x.fault(0), isOtherName && allowed.startsWith(ONE) ? 5 : 1);
                check.same("place of " + token + " behind '" + before + "'", x.fault(1), place);
            }
        }
    }

    private static boolean isOneOf(String token, String tokens) {
        return (" " + tokens + " ").contains(" " + token + " ");
    }

    private void faultTwo() {
        check.says(0, "2 a NUMBER that isn't one of those told (above 9999; KINDS, BLOWERS 0 .. 5, PIECES 0 .. 9, breaths 1 .. 9,"
                + " of wait 1 .. 99)");
        stands("smoke 9999;");
        check.fault("smoke 10000;", 2, 6);
        stands("begin 0;");
        stands("begin 5;");
        check.fault("begin 6;", 2, 6);
        check.fault("begin 10000;", 2, 6);
        stands("blow 0 by 0 give 1;");
        stands("blow 9 by 5 give 9;");
        check.fault("blow 10 by 0 give 1;", 2, 5);
        check.fault("blow 0 by 6 give 1;", 2, 10);
        check.fault("blow 0 by 0 give 0;", 2, 17);
        check.fault("blow 0 by 0 give 10;", 2, 17);
        check.fault("blow 0 by 0 give 10000;", 2, 17);
        stands("wait 1;");
        stands("wait 99;");
        check.fault("wait 0;", 2, 5);
        check.fault("wait 100;", 2, 5);
        check.fault("wait 4294967297;", 2, 5);
        stands("wait 0000099;");
        check.same("kinds, pieces and blowers that aren't told yet", Check.read(new BreathOnLoan(), "begin 5;blow 9 by 5 give 9;"), 0);
    }

    private void faultThree() {
        check.says(0, "3 the 9th of ( not if and - (of one ONE) that are open around one another (at it)");
        stands("smoke " + "(".repeat(8) + "1" + ")".repeat(8) + ";");
        check.fault("smoke " + "(".repeat(9) + "1" + ")".repeat(9) + ";", 3, 14);
        stands("smoke " + "-".repeat(8) + "1;");
        check.fault("smoke " + "-".repeat(9) + "1;", 3, 14);
        stands("smoke 1-" + "-".repeat(8) + "1;");
        check.fault("smoke 1-" + "-".repeat(9) + "1;", 3, 16);
        stands("smoke if " + "not ".repeat(7) + "1<2?1:2 end;");
        check.fault("smoke if " + "not ".repeat(8) + "1<2?1:2 end;", 3, 37);
        stands("smoke " + "if ".repeat(8) + "1" + "<2?1:2 end".repeat(8) + ";");
        check.fault("smoke " + "if ".repeat(9) + "1" + "<2?1:2 end".repeat(9) + ";", 3, 30);
        stands("smoke " + "if 1<2?".repeat(8) + "1" + ":2 end".repeat(8) + ";");
        check.fault("smoke " + "if 1<2?".repeat(9) + "1" + ":2 end".repeat(9) + ";", 3, 62);
        stands("smoke " + "if 1<2?1:".repeat(8) + "1" + " end".repeat(8) + ";");
        check.fault("smoke " + "if 1<2?1:".repeat(9) + "1" + " end".repeat(9) + ";", 3, 78);
    }

    private void faultThreeAmongOthers() {
        stands("smoke (-(-(-(-1))));");
        check.fault("smoke (-(-(-(-(1)))));", 3, 14);
        check.fault("smoke (-(-(-(--1))));", 3, 14);
        check.fault("smoke (-(-(-(-if 1<2?1:2 end))));", 3, 14);
        stands("smoke ((((((((1))))))))+((((((((1))))))));");
        stands("smoke (((((((1)))))))*(((((((1)))))))-(((((((1)))))));");
        stands("smoke --------1---------1;");
        stands("smoke -------1*--------1/--------1;");
        stands("smoke ((((-(1)-(2))-(-(1)))));");
        stands("smoke if not not not not not not not 1<2 and not not not not not not not 1<2 or not not not 1<2?1:2 end;");
        stands("smoke if 1<2?((((((1)))))):((((((1)))))) end+((((((((1))))))));");
        stands("smoke if ((((((1))))))<((((((1))))))?1:2 end;");
        check.fault("smoke if ((((((((1", 3, 16);
        check.fault("smoke if not (((((((1", 3, 19);
        check.fault("smoke if not 1<(((((((1", 3, 21);
        stands("smoke if not 1<2 and (((((((1)))))))<(((((((1)))))))?1:2 end;");
        stands("smoke if not ((((((1))))))<2?(((((((1))))))):(((((((1))))))) end;");
        check.fault("smoke if not 1<2?((((((((1", 3, 24);
        stands("smoke ((((((((1))))))));cost ((((((((1))))))));");
        stands("smoke --------1;cost --------1;");
    }

    private void faultFour() {
        check.says(0, "4 smoke, cost, brittle, share for the second time (at it)");
        check.fault("smoke 1;smoke 1;", 4, 8);
        check.fault("cost 1;cost 1;", 4, 7);
        check.fault("brittle 1;brittle 1;", 4, 10);
        check.fault("share 1;share 1;", 4, 8);
        check.fault("smoke 1;cost 1;brittle 1;share 1;smoke", 4, 33);
        check.fault("smoke 1;cost 1;brittle 1;share 1;share", 4, 33);
        check.fault("smoke 1;wait 1;smoke lungs", 4, 15);
        stands("begin 0;begin 0;blow 0 by 0 give 1;blow 0 by 0 give 1;wait 1;wait 1;");
        BreathOnLoan x = new BreathOnLoan();
        Check.read(x, "smoke 1;");
        check.same("once in another text", Check.read(x, "smoke 1;"), 1);
        Check.read(x, "cost 1;cost 1;");
        check.same("nor behind a fault", Check.read(x, "cost 1;"), 2);
    }

    private void faultFive() {
        check.says(0, "5 a NAME that isn't of that CLAUSE (at it)");
        check.fault("smoke 1+lungs;", 5, 8);
        check.fault("cost blower+many;", 5, 12);
        check.fault("brittle (breaths);", 5, 9);
        check.fault("share -quarrels;", 5, 7);
        check.fault("smoke if 1<beads?1:2 end;", 5, 11);
        check.fault("cost 1;smoke lungs;", 5, 13);
        check.fault("share breaths;cost breaths;", 5, 19);
        stands("cost lungs;smoke 1;share breaths;brittle many;");
    }

    private void faultSix() {
        check.says(0, "6 the 25th CLAUSE (at its first TOKEN)");
        check.fault("wait 1;".repeat(24) + "begin", 6, 168);
        check.fault("wait 1;".repeat(24) + "blow 99", 6, 168);
        check.fault("wait 1;".repeat(24) + "wait", 6, 168);
        check.fault("wait 1;".repeat(24) + "smoke lungs;", 6, 168);
        check.fault("wait 1;".repeat(24) + "share", 6, 168);
        check.fault("wait 1;".repeat(23) + "begin", 1, 166);
        BreathOnLoan x = new BreathOnLoan();
        Check.read(x, "wait 1;".repeat(25));
        check.same("24 of the next text", Check.read(x, "wait 1;".repeat(24)), 0);
    }

    /** What a text ahead had open, had told or was long by is not the next one's. */
    private void nothingOfTheTextAhead() {
        BreathOnLoan x = new BreathOnLoan();
        for (String open : new String[] {"smoke ((((((((", "smoke if not not not not not not not 1<", "smoke --------"}) {
            Check.read(x, open);
            check.same("all eight are open yet, behind " + open, x.fault(1), open.length());
        }
        check.same("eight of the next", Check.read(x, "smoke ((((((((1))))))));"), 0);
        for (int i = 1; i < 4; i++) {
            check.same("long ones", Check.read(x, "cost  " + i + "+1".repeat(146) + ";"), i);
            Check.read(x, "cost 1" + "+1".repeat(146));
        }
        x.blower(1, 0, 0);
        x.by(3);
        check.same("99 at most", x.cost(0, 0), 99);
        BreathOnLoan y = new BreathOnLoan();
        for (int i = 0; i < 4; i++) {
            Check.read(y, "cost  " + i + "-1".repeat(146) + ";");
            Check.read(y, "share " + (i + 2) + ";cost 200-" + "1-".repeat(140) + i);
            Check.read(y, "cost many" + "-1".repeat(140) + ";");
        }
        y.back();
        for (int i = 0; i < 4; i++) {
            check.same("room of its own", Check.read(y, "cost " + (i + 3) + "+200" + "-1".repeat(140) + ";"), i);
        }
        y.blower(1, 0, 0);
        for (int i = 0; i < 4; i++) {
            y.by(i);
            check.same("cost by " + i, y.cost(0, 0), 63 + i);
        }
    }
}
