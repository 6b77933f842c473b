/** Objects in which much, all or nothing is told, made anew for each test. */
final class Scene {
    private Scene() {
    }

    static BreathOnLoan fresh() {
        return new BreathOnLoan();
    }

    /**
     * Three blowers, three kinds, two texts (0 rules); piece 0 is done, 1 a bell, 2 is blown, 3 is sold; hour 1, 12 steps,
     * two hours seen, two told, eight bytes on the tape; in the image piece 0 alone, in hour 0.
     */
    static BreathOnLoan busy() {
        BreathOnLoan x = Check.ruledBy("smoke 20-hour;cost 2;brittle 3+quarrels;share breaths+blower;");
        x.blower(5, 0, 100);
        x.blower(9, 1, 200);
        x.blower(3, 2, 50);
        x.kind(8, 3, 60);
        x.kind(4, 0, 30);
        x.kind(30, 0, 999);
        x.quarrel(0, 1, true);
        x.begin(0);
        x.blow(0, 0, 3);
        x.blow(0, 1, 5);
        x.seen(7);
        x.tell(0, 0, 3, 0);
        x.image();
        Check.read(x, "begin 0;wait 1;blow 4 by 2 give 1;");
        x.later(1);
        x.begin(1);
        x.blow(1, 1, 5);
        x.begin(2);
        x.blow(2, 0, 2);
        x.begin(1);
        x.blow(3, 2, 3);
        x.blow(3, 0, 1);
        x.sell(3);
        x.seen(3);
        x.tell(1, 9, 2, 5);
        Check.read(x, "smoke lungs;");
        Check.put(x, "smoke 7;");
        return x;
    }

    /** As many of each as there can be, in the last hour; the image has a text, a bubble and some others less. */
    static BreathOnLoan full() {
        BreathOnLoan x = Check.ruledBy("cost 3;");
        for (int i = 0; i < 6; i++) {
            x.blower(9 - i / 4, i % 4, 999 - i);
            x.kind(30 - i, i, 999 - i);
        }
        Check.read(x, "wait 1;");
        Check.read(x, "begin 5;");
        for (int i = 0; i < 10; i++) {
            x.later(99);
        }
        x.later(9);
        for (int i = 0; i < 10; i++) {
            x.begin(i % 6);
        }
        for (int i = 0; i < 40; i++) {
            if (i == 39) {
                x.image();
            }
            x.blow(i % 10, i % 6, 1);
        }
        for (int i = 0; i < 8; i++) {
            x.seen(i);
        }
        for (int i = 0; i < 20; i++) {
            x.tell(i % 6, i % 10, 1 + i % 9, 999 - i);
        }
        Check.read(x, "blow 9 by 5 give 9;");
        Check.put(x, "smoke 7" + " ".repeat(292) + ";");
        return x;
    }
}
