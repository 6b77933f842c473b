/** Promises 5 to 8: the tape, how many texts there are, and where the latest fault is told. */
final class TapeEdges {
    private final Check check;

    TapeEdges(Check check) {
        this.check = check;
    }

    void test() {
        bytesComeInOrder();
        bytesAreBytes();
        threeHundredBytes();
        theTapeIsCut();
        aTokenIsCut();
        theTapeIsNotCut();
        aTapeIsAText();
        aTextOf300Bytes();
        aFaultyTextIsNone();
        fourTexts();
        theLatestFault();
        noFaultYet();
        faultOthers();
    }

    private void bytesComeInOrder() {
        check.says(5, "Twenty bytes come behind the tape, the highest of a first: how many it has.");
        BreathOnLoan x = new BreathOnLoan();
        check.same("twenty", x.feed(0x736d6f6b, 0x65203132, 0x3b636f73, 0x74203334, 0x3b206272), 20);
        check.same("forty", x.feed(0x6974746c, 0x65207761, 0x6e743b62, 0x6567696e, 0x20373b20), 40);
        check.same("smoke 12;cost 34; brittle want;begin 7; ", x.text(), -1);
        check.same("7 is no kind", x.fault(0), 2);
        check.same("its place", x.fault(1), 37);
        x.feed(0x736d6f6b, 0x65203132, 0x3b636f73, 0x74203334, 0x3b202020);
        check.same("smoke 12;cost 34;", x.text(), 0);
        x.by(0);
        x.blower(1, 0, 0);
        check.same("smoke", x.smoke(0), 12);
        check.same("cost", x.cost(0, 0), 34);
    }

    private void bytesAreBytes() {
        for (int at = 0; at < 20; at++) {
            for (int odd : new int[] {0, 1, 127, 128, 255}) {
                BreathOnLoan x = new BreathOnLoan();
                String text = " ".repeat(at) + (char) odd + "\n".repeat(19 - at);
                x.feed(Check.word(text, 0), Check.word(text, 4), Check.word(text, 8), Check.word(text, 12), Check.word(text, 16));
                check.same("byte " + odd, x.text(), -1);
                check.same("byte " + odd + " is none", x.fault(0), 1);
                check.same("place of byte " + odd, x.fault(1), at);
            }
        }
        BreathOnLoan x = new BreathOnLoan();
        check.same("bytes that are all 255", x.feed(-1, -1, -1, -1, -1), 20);
        check.same("far ones", x.feed(Integer.MIN_VALUE, Integer.MAX_VALUE, Integer.MIN_VALUE, Integer.MAX_VALUE, 0), 40);
    }

    private void threeHundredBytes() {
        check.says(5, "NONE, and none come, if there would be more than 300.");
        BreathOnLoan x = new BreathOnLoan();
        for (int i = 1; i <= 15; i++) {
            check.same("feed " + i, x.feed(0, 0, 0, 0, 0), 20 * i);
        }
        check.same("the sixteenth", x.feed(0, 0, 0, 0, 0), -1);
        check.same("300 yet", x.about(9), 300);
        check.leaves("more than 300", Scene::full, y -> y.feed(0x736d6f6b, 0x65203120, 0x20202020, 0x20202020, 0x2020203b), -1);
        for (int have : new int[] {281, 282, 299, 300}) {
            check.leaves("behind " + have, () -> tapeOf(have), y -> y.feed(1, 2, 3, 4, 5), -1);
        }
        check.same("behind 280", tapeOf(280).feed(1, 2, 3, 4, 5), 300);
        check.same("behind 279", tapeOf(279).feed(1, 2, 3, 4, 5), 299);
    }

    private static BreathOnLoan tapeOf(int bytes) {
        BreathOnLoan x = new BreathOnLoan();
        Check.put(x, "smoke 9" + " ".repeat(bytes - 8) + ";");
        return x;
    }

    private void theTapeIsCut() {
        check.says(6, "The tape has its first n bytes alone: n.");
        BreathOnLoan x = tapeOf(300);
        check.same("all of it", x.end(300), 300);
        check.same("one less", x.end(299), 299);
        check.same("eight", x.end(8), 8);
        check.same("eight are there", x.about(9), 8);
        check.same("more come behind these", x.feed(0x31202020, 0x20202020, 0x20202020, 0x20202020, 0x2020203b), 28);
        check.same("smoke 9 1;", x.text(), -1);
        check.same("can't stand there", x.fault(0), 1);
        check.same("behind the eighth", x.fault(1), 8);
        check.same("none of none", x.end(0), 0);
        BreathOnLoan y = tapeOf(20);
        check.same("none of twenty", y.end(0), 0);
        check.same("an empty text", y.text(), 0);
        check.same("it has no fault", y.fault(0), 0);
    }

    /** What was behind the end is read no more, though a token could go on there. */
    private void aTokenIsCut() {
        cut("waits 1;", 4, 1, 4);
        cut("smoke hours;", 10, 1, 10);
        cut("begin 12;", 7, 1, 7);
        cut("wait 100;", 7, 1, 7);
        cut("smoke 99999;", 10, 1, 10);
        cut("smoke if 1<=2", 11, 1, 11);
        cut("smoke if 1>=2", 11, 1, 11);
        cut("wait 1;wait 100;", 7, 0, -1);
        cut("wait 1;   ;", 10, 0, -1);
        for (String last : new String[] {"x", "smoke", "9", "<", ">", "<=", "(", "!"}) {
            cut(" ".repeat(300 - last.length()) + last, 300, 1, last.equals("smoke") ? 300 : 300 - last.length());
        }
        cut("smoke 1" + " ".repeat(292) + "9", 300, 1, 299);
        cut("wait" + " ".repeat(295) + "9", 300, 1, 300);
        cut("smoke if 1" + " ".repeat(289) + "<", 300, 1, 300);
        cut("smoke" + "e".repeat(295), 300, 1, 0);
        cut("smoke " + "9".repeat(294), 300, 2, 6);
    }

    private void cut(String text, int n, int fault, int place) {
        BreathOnLoan x = new BreathOnLoan();
        Check.put(x, text);
        check.same("cut '" + text + "'", x.end(n), n);
        check.same("text of '" + text + "', cut", x.text(), fault == 0 ? 0 : -1);
        check.same("fault of '" + text + "', cut", x.fault(0), fault);
        check.same("place in '" + text + "', cut", x.fault(1), place);
    }

    private void theTapeIsNotCut() {
        check.says(6, "NONE, and nothing is done, if it has not so many, or n is below 0.");
        check.refuses("end", Scene::fresh, BreathOnLoan::end, -1, -1, 1);
        check.refuses("end", Scene::busy, BreathOnLoan::end, -1, -1, 9, 20);
        check.refuses("end", Scene::full, BreathOnLoan::end, -1, -1, 301);
    }

    private void aTapeIsAText() {
        check.says(0, "TEXTS 0 .. 3");
        check.says(7, "The tape (empty then) is a TEXT: its number.");
        BreathOnLoan x = new BreathOnLoan();
        for (int i = 0; i < 4; i++) {
            Check.put(x, "smoke " + (i + 5) + ";");
            check.same("text " + i, x.text(), i);
            check.same("empty then", x.about(9), 0);
            check.same("texts", x.about(4), i + 1);
            check.same("it does not rule yet", x.smoke(0), i == 0 ? 40 : i + 4);
            x.by(i);
            check.same("smoke by it", x.smoke(0), i + 5);
        }
    }

    private void aTextOf300Bytes() {
        check.says(0, "of up to 300 bytes");
        BreathOnLoan x = tapeOf(300);
        check.same("300 bytes", x.text(), 0);
        x.by(0);
        check.same("smoke", x.smoke(0), 9);
        Check.put(x, "smoke 9" + " ".repeat(293));
        check.same("300 without an end", x.text(), -1);
        check.same("its fault is at the length", x.fault(1), 300);
        check.same("no bytes at all", x.text(), 1);
        Check.put(x, "cost  1" + "+1".repeat(146) + ";");
        check.same("300 bytes of a sum", x.text(), 2);
        x.by(2);
        x.blower(1, 0, 0);
        check.same("147, 99 at most", x.cost(0, 0), 99);
    }

    private void aFaultyTextIsNone() {
        check.says(7, "NONE: it has a FAULT");
        BreathOnLoan x = Scene.busy();
        Check.put(x, "smoke 1; cost many;");
        check.same("a fault", x.text(), -1);
        check.same("no text more", x.about(4), 2);
        check.same("the tape is empty", x.about(9), 0);
        check.same("the text rules as before", x.about(5), 0);
        check.same("smoke as before", x.smoke(5), 15);
        check.no("it can't rule", x.by(2));
        check.same("it can't be played", x.played(2), -2);
        check.same("the next has the number", Check.read(x, "smoke 3;"), 2);
    }

    private void fourTexts() {
        check.says(7, "or (the tape stays) there are 4.");
        check.leaves("the fifth", Scene::full, BreathOnLoan::text, -1);
        BreathOnLoan x = Scene.full();
        check.same("the fifth", x.text(), -1);
        check.same("the tape stays", x.about(9), 300);
        check.same("it was not read", x.fault(0), 0);
        x.back();
        check.same("with three it is one", x.text(), 3);
        x.by(3);
        check.same("its smoke", x.smoke(0), 7);
        Check.put(x, "smoke many;");
        check.same("a fault too", x.text(), -1);
        check.same("the tape stays too", x.about(9), 11);
        check.same("nor was that read", x.fault(0), 0);
    }

    private void theLatestFault() {
        check.says(8, "Of the latest text that was read: 0 its FAULT (0 without), 1 its place (NONE without).");
        BreathOnLoan x = new BreathOnLoan();
        Check.read(x, "smoke lungs;");
        check.same("fault", x.fault(0), 5);
        check.same("place", x.fault(1), 6);
        Check.read(x, ";");
        check.same("the next fault", x.fault(0), 1);
        check.same("the next place", x.fault(1), 0);
        Check.put(x, "smoke many;");
        check.same("what is on the tape isn't read", x.fault(0), 1);
        Check.read(x, "smoke 1;");
        check.same("without", x.fault(0), 0);
        check.same("no place", x.fault(1), -1);
        check.leaves("to ask", Scene::busy, y -> y.fault(0), 5);
        check.leaves("to ask its place", Scene::busy, y -> y.fault(1), 6);
    }

    private void noFaultYet() {
        check.says(8, "and ahead of any.");
        check.leaves("fault", Scene::fresh, y -> y.fault(0), -1);
        check.leaves("place", Scene::fresh, y -> y.fault(1), -1);
        check.same("a tape alone", tapeOf(30).fault(0), -1);
    }

    private void faultOthers() {
        check.says(8, "NONE for others,");
        check.refuses("fault", Scene::fresh, BreathOnLoan::fault, -1, -1, 2);
        check.refuses("fault", Scene::busy, BreathOnLoan::fault, -1, -1, 2);
        check.refuses("fault", Scene::full, BreathOnLoan::fault, -1, -1, 2);
    }
}
