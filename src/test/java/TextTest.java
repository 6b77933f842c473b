/** Promises 5 to 8: the tape, texts and their faults. */
public final class TextTest {
    private static final Check CHECK = new Check();

    public static void main(String[] args) {
        theTapeHas300Bytes();
        textsAreFour();
        blanksAndEdgesStand();
        faultOneIsFound();
        faultTwoIsFound();
        faultThreeIsFound();
        faultsFourToSixAreFound();
        theFirstAndLeastFaultIsTold();
        CHECK.finish("TextTest");
    }

    private static void theTapeHas300Bytes() {
        BreathOnLoan x = new BreathOnLoan();
        for (int i = 1; i <= 15; i++) {
            CHECK.same("feed " + i, x.feed(0, 0, 0, 0, 0), 20 * i);
        }
        CHECK.same("feed 16", x.feed(0, 0, 0, 0, 0), -1);
        CHECK.same("none came", x.about(9), 300);
        CHECK.same("end 301", x.end(301), -1);
        CHECK.same("end -1", x.end(-1), -1);
        CHECK.same("nothing done", x.about(9), 300);
        CHECK.same("end 281", x.end(281), 281);
        CHECK.same("20 more are too many", x.feed(0, 0, 0, 0, 0), -1);
        CHECK.same("end 280", x.end(280), 280);
        CHECK.same("20 more fit", x.feed(0, 0, 0, 0, 0), 300);
        CHECK.same("end 0", x.end(0), 0);
        CHECK.same("end 1", x.end(1), -1);
    }

    private static void textsAreFour() {
        BreathOnLoan x = new BreathOnLoan();
        CHECK.same("fault ahead of any", x.fault(0), -1);
        CHECK.same("place ahead of any", x.fault(1), -1);
        CHECK.same("an empty text", x.text(), 0);
        CHECK.same("no fault", x.fault(0), 0);
        CHECK.same("no place", x.fault(1), -1);
        CHECK.same("fault 2", x.fault(2), -1);
        CHECK.same("fault -1", x.fault(-1), -1);
        CHECK.same("a bad one", Check.read(x, "smoke;"), -1);
        CHECK.same("its tape is empty", x.about(9), 0);
        CHECK.same("texts yet", x.about(4), 1);
        CHECK.same("second", Check.read(x, "smoke 1;"), 1);
        CHECK.same("empty then", x.about(9), 0);
        CHECK.same("third", Check.read(x, "smoke 2;"), 2);
        CHECK.same("fourth", Check.read(x, "smoke 3;"), 3);
        CHECK.same("fifth", Check.read(x, "smoke ;"), -1);
        CHECK.same("the tape stays", x.about(9), 7);
        CHECK.same("it was not read", x.fault(0), 0);
    }

    private static void blanksAndEdgesStand() {
        CHECK.fault("", 0, -1);
        CHECK.fault(" \n \n", 0, -1);
        CHECK.fault("begin0;blow9by5give9;wait99;", 0, -1);
        CHECK.fault("begin 5;blow 0 by 0 give 1;wait 1;", 0, -1);
        CHECK.fault("smoke\n9999\n;\n", 0, -1);
        CHECK.fault("smoke 000000000000000012;", 0, -1);
        CHECK.fault("begin 0005;", 0, -1);
        CHECK.fault("share hour+blower+lungs+voice+beads+kind+want+worth+breaths;", 0, -1);
        CHECK.fault("brittle hour+kind+want+worth+quarrels+many;", 0, -1);
        CHECK.fault("cost hour+blower+lungs+voice+beads;", 0, -1);
        CHECK.fault("smoke if not 1<2 and 1<=2 or 1>2 and 1>=2 or not not 1=2 and 1#2?1:2 end;", 0, -1);
        CHECK.fault("smoke if 1<2?if 1<2?1:2end:3end*if 2>1?1:2 end;", 0, -1);
        CHECK.fault("smoke ((((((((1))))))))+((((((((1))))))));", 0, -1);
        CHECK.fault("smoke 1*--2/-3--4;", 0, -1);
        StringBuilder many = new StringBuilder();
        for (int i = 0; i < 24; i++) {
            many.append("wait 1;");
        }
        CHECK.fault(many.toString(), 0, -1);
    }

    private static void faultOneIsFound() {
        CHECK.fault("foo 1;", 1, 0);
        CHECK.fault("Smoke 1;", 1, 0);
        CHECK.fault("smokes 1;", 1, 0);
        CHECK.fault("smoke\t1;", 1, 5);
        CHECK.fault("smoke 1;" + (char) 0, 1, 8);
        CHECK.fault("smoke 1;" + (char) 200, 1, 8);
        CHECK.fault("smoke", 1, 5);
        CHECK.fault("smoke  ", 1, 7);
        CHECK.fault("smoke 1", 1, 7);
        CHECK.fault("smoke 1 \n", 1, 9);
        CHECK.fault("smoke 1 hour;", 1, 8);
        CHECK.fault("smoke hour1;", 1, 10);
        CHECK.fault("smoke 1+;", 1, 8);
        CHECK.fault("smoke foo;", 1, 6);
        CHECK.fault("smoke cost;", 1, 6);
        CHECK.fault("smoke (1;", 1, 8);
        CHECK.fault("smoke 1);", 1, 7);
        CHECK.fault("smoke 1<2;", 1, 7);
        CHECK.fault("smoke if 1?2:3 end;", 1, 10);
        CHECK.fault("smoke if 1< =2?2:3 end;", 1, 12);
        CHECK.fault("smoke if 1<>2?2:3 end;", 1, 11);
        CHECK.fault("smoke if (1<2)?2:3 end;", 1, 11);
        CHECK.fault("smoke if 1<2<3?2:3 end;", 1, 12);
        CHECK.fault("smoke if 1<2:2:3 end;", 1, 12);
        CHECK.fault("smoke if 1<2?2?3 end;", 1, 14);
        CHECK.fault("smoke if 1<2?2:3;", 1, 16);
        CHECK.fault("smoke if not?2:3 end;", 1, 12);
        CHECK.fault("smoke not 1<2;", 1, 6);
        CHECK.fault("begin;", 1, 5);
        CHECK.fault("begin -1;", 1, 6);
        CHECK.fault("begin 1+1;", 1, 7);
        CHECK.fault("begin hour;", 1, 6);
        CHECK.fault("blow 1 give 1;", 1, 7);
        CHECK.fault("blow 1 by 1;", 1, 11);
        CHECK.fault("wait 1;;", 1, 7);
        CHECK.fault("hour;", 1, 0);
        CHECK.fault("by;", 1, 0);
        CHECK.fault("smoke 1!;", 1, 7);
    }

    private static void faultTwoIsFound() {
        CHECK.fault("smoke 10000;", 2, 6);
        CHECK.fault("smoke 99999999999999999999;", 2, 6);
        CHECK.fault("smoke 4294967297;", 2, 6);
        CHECK.fault("begin 6;", 2, 6);
        CHECK.fault("begin 10000;", 2, 6);
        CHECK.fault("blow 10 by 0 give 1;", 2, 5);
        CHECK.fault("blow 9 by 6 give 1;", 2, 10);
        CHECK.fault("blow 9 by 5 give 0;", 2, 17);
        CHECK.fault("blow 9 by 5 give 10;", 2, 17);
        CHECK.fault("wait 0;", 2, 5);
        CHECK.fault("wait 100;", 2, 5);
        CHECK.fault("begin 6 !", 2, 6);
    }

    private static void faultThreeIsFound() {
        CHECK.fault("smoke (((((((((1", 3, 14);
        CHECK.fault("smoke ---------1;", 3, 14);
        CHECK.fault("smoke --------1---------1;", 0, -1);
        CHECK.fault("smoke --------1----------1;", 3, 24);
        CHECK.fault("smoke 1---------1;", 0, -1);
        CHECK.fault("smoke 1-(-(-(-(-1))));", 0, -1);
        CHECK.fault("smoke 1-(-(-(-(-(1)))));", 3, 16);
        CHECK.fault("smoke 1-(-(-(-(1))))-(1);", 0, -1);
        CHECK.fault("smoke if not not not not not not not not 1<2?1:2 end;", 3, 37);
        CHECK.fault("smoke if not not not not not not not 1<2 and not not not not not not not 1<2?1:2 end;", 0, -1);
        CHECK.fault("smoke if if if if if if if if if 1", 3, 30);
        CHECK.fault("smoke (if (1<2?", 1, 12);
        CHECK.fault("smoke (if -(1)<2?(-(if not(1)<2?1:(3)end)):4 end);", 0, -1);
        CHECK.fault("smoke (if -(1)<2?(-(if not(-1)<2?1:(3)end)):4 end);", 3, 27);
    }

    private static void faultsFourToSixAreFound() {
        CHECK.fault("smoke 1;smoke 2;", 4, 8);
        CHECK.fault("cost 1;smoke 1;cost", 4, 15);
        CHECK.fault("brittle 1;brittle 1;", 4, 10);
        CHECK.fault("share 1;wait 1; share 1;", 4, 16);
        for (String name : new String[] {"blower", "lungs", "voice", "beads"}) {
            CHECK.fault("smoke " + name + ";", 5, 6);
            CHECK.fault("brittle " + name + ";", 5, 8);
        }
        for (String name : new String[] {"kind", "want", "worth"}) {
            CHECK.fault("smoke " + name + ";", 5, 6);
            CHECK.fault("cost " + name + ";", 5, 5);
        }
        for (String name : new String[] {"quarrels", "many"}) {
            CHECK.fault("smoke " + name + ";", 5, 6);
            CHECK.fault("cost " + name + ";", 5, 5);
            CHECK.fault("share " + name + ";", 5, 6);
        }
        CHECK.fault("smoke breaths;", 5, 6);
        CHECK.fault("cost breaths;", 5, 5);
        CHECK.fault("brittle breaths;", 5, 8);
        CHECK.fault("smoke 1;cost 2*beads;brittle 3;share (many);", 5, 38);
        CHECK.fault("wait 1;".repeat(24) + "begin 9;", 6, 168);
    }

    private static void theFirstAndLeastFaultIsTold() {
        CHECK.fault("smoke 1;" + "wait 1;".repeat(23) + "smoke 1;", 4, 169);
        CHECK.fault("smoke 1;" + "wait 1;".repeat(23) + "cost 1;", 6, 169);
        CHECK.fault("wait 1;".repeat(24) + "foo", 1, 168);
        CHECK.fault("wait 1;".repeat(24) + "!", 1, 168);
        CHECK.fault("smoke 1 10000;", 1, 8);
        CHECK.fault("smoke want foo;", 5, 6);
        CHECK.fault("begin 6", 2, 6);
        CHECK.fault("smoke 10000+foo;", 2, 6);
        CHECK.fault("smoke 1;smoke", 4, 8);
    }
}
