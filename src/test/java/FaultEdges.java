/** Part II of the Terms: which fault is told, and where. */
final class FaultEdges {
    private final Check check;

    FaultEdges(Check check) {
        this.check = check;
    }

    void test() {
        theFirst();
        thePlace();
        theLeast();
        faultOne();
        faultTwo();
        faultThree();
        faultThreeAmongOthers();
        faultFour();
        faultFive();
        faultSix();
    }

    private void faulty(String text, int fault, int place) {
        BreathOnLoan x = new BreathOnLoan();
        check.same("text '" + text + "'", Check.read(x, text), fault == 0 ? 0 : -1);
        check.same("fault of '" + text + "'", x.fault(0), fault);
        check.same("place in '" + text + "'", x.fault(1), place);
    }

    private void stands(String text) {
        faulty(text, 0, -1);
    }

    private void theFirst() {
        check.says(0, "FAULTS, the first as TOKENS are come to");
        faulty("smoke want foo;", 5, 6);
        faulty("smoke 10000 foo", 2, 6);
        faulty("smoke foo; smoke lungs; begin 6;", 1, 6);
        faulty("begin 6; smoke foo;", 2, 6);
        faulty("smoke 1; smoke foo;", 4, 9);
        faulty("smoke (((((((((foo", 3, 14);
        faulty("smoke ((((((((foo(((", 1, 14);
        faulty("smoke ((((((((lungs((", 5, 14);
        faulty("wait 1;".repeat(24) + "begin foo", 6, 168);
        faulty("begin 6!", 2, 6);
        faulty("smoke 1;!begin 6;", 1, 8);
        faulty("smoke if 1<2?1:lungs;", 5, 15);
    }

    private void thePlace() {
        check.says(0, "at the TOKEN's first byte (of the end at the length)");
        faulty("", 0, -1);
        faulty("smoke", 1, 5);
        faulty("smoke ", 1, 6);
        faulty("smoke \n \n", 1, 9);
        faulty("smoke 1", 1, 7);
        faulty("smoke 1   ", 1, 10);
        faulty("begin", 1, 5);
        faulty("blow 1 ", 1, 7);
        faulty("wait 1 ", 1, 7);
        faulty("   foo", 1, 3);
        faulty("\n\nsmoke\n\n  lungs  ;", 5, 11);
        faulty("smoke  10000  ;", 2, 7);
        faulty("smoke if 1 <= <= 2", 1, 14);
        faulty("  smoke 1;  smoke 2;", 4, 12);
        faulty("wait 1;".repeat(24) + "  wait 1;", 6, 170);
        faulty("smoke ( ( ( ( ( ( ( (  (", 3, 23);
        faulty("smoke" + " ".repeat(295), 1, 300);
        faulty("smoke" + " ".repeat(294) + "!", 1, 299);
    }

    private void theLeast() {
        check.says(0, "of one the least");
        faulty("10000;", 1, 0);
        faulty("smoke 1 10000;", 1, 8);
        faulty("begin 1 10000;", 1, 8);
        faulty("blow 10000", 2, 5);
        faulty("blow 0 10000", 1, 7);
        faulty("smoke ((((((((1(", 1, 15);
        faulty("smoke if not not not not not not not 1 not", 1, 39);
        faulty("smoke if not not not not not not not 1 if", 1, 39);
        faulty("smoke ((((((((not", 1, 14);
        faulty("smoke 1 lungs;", 1, 8);
        faulty("begin lungs;", 1, 6);
        faulty("lungs;", 1, 0);
        faulty("smoke 1 smoke 1;", 1, 8);
        faulty("smoke 1;cost 1;begin smoke", 1, 21);
        faulty("wait 1;".repeat(24) + "foo;", 1, 168);
        faulty("wait 1;".repeat(24) + ";", 1, 168);
        faulty("wait 1;".repeat(24) + "10000;", 1, 168);
        faulty("wait 1;".repeat(24) + "!", 1, 168);
        faulty("smoke 1;" + "wait 1;".repeat(23) + "smoke 1;", 4, 169);
        faulty("cost 1;" + "wait 1;".repeat(23) + "cost 1;", 4, 168);
        faulty("smoke 1;" + "wait 1;".repeat(23) + "cost 1;", 6, 169);
    }

    private void faultOne() {
        check.says(0, "1 it can't stand there, or is none");
        faulty("smoke ;", 1, 6);
        faulty("smoke :", 1, 6);
        faulty("smoke ?", 1, 6);
        faulty("smoke )", 1, 6);
        faulty("smoke =", 1, 6);
        faulty("smoke and", 1, 6);
        faulty("smoke or", 1, 6);
        faulty("smoke give", 1, 6);
        faulty("smoke begin", 1, 6);
        faulty("if 1<2?1:2 end;", 1, 0);
        faulty("end;", 1, 0);
        faulty("hour;", 1, 0);
        faulty("1;", 1, 0);
        faulty("(1);", 1, 0);
        faulty("&", 1, 0);
        faulty("smoke 1;" + (char) 255, 1, 8);
        faulty("smoke 1" + (char) 0 + ";", 1, 7);
    }

    private void faultTwo() {
        check.says(0, "2 a NUMBER that isn't one of those told (above 9999; KINDS, BLOWERS 0 .. 5, PIECES 0 .. 9, breaths 1 .. 9,"
                + " of wait 1 .. 99)");
        stands("smoke 9999;");
        faulty("smoke 10000;", 2, 6);
        stands("begin 0;");
        stands("begin 5;");
        faulty("begin 6;", 2, 6);
        faulty("begin 10000;", 2, 6);
        stands("blow 0 by 0 give 1;");
        stands("blow 9 by 5 give 9;");
        faulty("blow 10 by 0 give 1;", 2, 5);
        faulty("blow 0 by 6 give 1;", 2, 10);
        faulty("blow 0 by 0 give 0;", 2, 17);
        faulty("blow 0 by 0 give 10;", 2, 17);
        faulty("blow 0 by 0 give 10000;", 2, 17);
        stands("wait 1;");
        stands("wait 99;");
        faulty("wait 0;", 2, 5);
        faulty("wait 100;", 2, 5);
        faulty("wait 4294967297;", 2, 5);
        stands("wait 0000099;");
        check.same("kinds, pieces and blowers that aren't told yet", Check.read(new BreathOnLoan(), "begin 5;blow 9 by 5 give 9;"), 0);
    }

    private void faultThree() {
        check.says(0, "3 the 9th of ( not if and - (of one ONE) that are open around one another (at it)");
        stands("smoke " + "(".repeat(8) + "1" + ")".repeat(8) + ";");
        faulty("smoke " + "(".repeat(9) + "1" + ")".repeat(9) + ";", 3, 14);
        stands("smoke " + "-".repeat(8) + "1;");
        faulty("smoke " + "-".repeat(9) + "1;", 3, 14);
        stands("smoke 1-" + "-".repeat(8) + "1;");
        faulty("smoke 1-" + "-".repeat(9) + "1;", 3, 16);
        stands("smoke if " + "not ".repeat(7) + "1<2?1:2 end;");
        faulty("smoke if " + "not ".repeat(8) + "1<2?1:2 end;", 3, 37);
        stands("smoke " + "if ".repeat(8) + "1" + "<2?1:2 end".repeat(8) + ";");
        faulty("smoke " + "if ".repeat(9) + "1" + "<2?1:2 end".repeat(9) + ";", 3, 30);
        stands("smoke " + "if 1<2?".repeat(8) + "1" + ":2 end".repeat(8) + ";");
        faulty("smoke " + "if 1<2?".repeat(9) + "1" + ":2 end".repeat(9) + ";", 3, 62);
        stands("smoke " + "if 1<2?1:".repeat(8) + "1" + " end".repeat(8) + ";");
        faulty("smoke " + "if 1<2?1:".repeat(9) + "1" + " end".repeat(9) + ";", 3, 78);
    }

    private void faultThreeAmongOthers() {
        stands("smoke (-(-(-(-1))));");
        faulty("smoke (-(-(-(-(1)))));", 3, 14);
        faulty("smoke (-(-(-(--1))));", 3, 14);
        faulty("smoke (-(-(-(-if 1<2?1:2 end))));", 3, 14);
        stands("smoke ((((((((1))))))))+((((((((1))))))));");
        stands("smoke (((((((1)))))))*(((((((1)))))))-(((((((1)))))));");
        stands("smoke --------1---------1;");
        stands("smoke -------1*--------1/--------1;");
        stands("smoke ((((-(1)-(2))-(-(1)))));");
        stands("smoke if not not not not not not not 1<2 and not not not not not not not 1<2 or not not not 1<2?1:2 end;");
        stands("smoke if 1<2?((((((1)))))):((((((1)))))) end+((((((((1))))))));");
        stands("smoke if ((((((1))))))<((((((1))))))?1:2 end;");
        faulty("smoke if ((((((((1", 3, 16);
        faulty("smoke if not (((((((1", 3, 19);
        faulty("smoke if not 1<(((((((1", 3, 21);
        stands("smoke if not 1<2 and (((((((1)))))))<(((((((1)))))))?1:2 end;");
        stands("smoke if not ((((((1))))))<2?(((((((1))))))):(((((((1))))))) end;");
        faulty("smoke if not 1<2?((((((((1", 3, 24);
        stands("smoke ((((((((1))))))));cost ((((((((1))))))));");
        stands("smoke --------1;cost --------1;");
    }

    private void faultFour() {
        check.says(0, "4 smoke, cost, brittle, share for the second time (at it)");
        faulty("smoke 1;smoke 1;", 4, 8);
        faulty("cost 1;cost 1;", 4, 7);
        faulty("brittle 1;brittle 1;", 4, 10);
        faulty("share 1;share 1;", 4, 8);
        faulty("smoke 1;cost 1;brittle 1;share 1;smoke", 4, 33);
        faulty("smoke 1;cost 1;brittle 1;share 1;share", 4, 33);
        faulty("smoke 1;wait 1;smoke lungs", 4, 15);
        stands("begin 0;begin 0;blow 0 by 0 give 1;blow 0 by 0 give 1;wait 1;wait 1;");
        BreathOnLoan x = new BreathOnLoan();
        Check.read(x, "smoke 1;");
        check.same("once in another text", Check.read(x, "smoke 1;"), 1);
        Check.read(x, "cost 1;cost 1;");
        check.same("nor behind a fault", Check.read(x, "cost 1;"), 2);
    }

    private void faultFive() {
        check.says(0, "5 a NAME that isn't of that CLAUSE (at it)");
        faulty("smoke 1+lungs;", 5, 8);
        faulty("cost blower+many;", 5, 12);
        faulty("brittle (breaths);", 5, 9);
        faulty("share -quarrels;", 5, 7);
        faulty("smoke if 1<beads?1:2 end;", 5, 11);
        faulty("cost 1;smoke lungs;", 5, 13);
        faulty("share breaths;cost breaths;", 5, 19);
        stands("cost lungs;smoke 1;share breaths;brittle many;");
    }

    private void faultSix() {
        check.says(0, "6 the 25th CLAUSE (at its first TOKEN)");
        faulty("wait 1;".repeat(24) + "begin", 6, 168);
        faulty("wait 1;".repeat(24) + "blow 99", 6, 168);
        faulty("wait 1;".repeat(24) + "wait", 6, 168);
        faulty("wait 1;".repeat(24) + "smoke lungs;", 6, 168);
        faulty("wait 1;".repeat(24) + "share", 6, 168);
        faulty("wait 1;".repeat(23) + "begin", 1, 166);
        BreathOnLoan x = new BreathOnLoan();
        Check.read(x, "wait 1;".repeat(25));
        check.same("24 of the next text", Check.read(x, "wait 1;".repeat(24)), 0);
    }
}
