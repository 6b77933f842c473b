/** Promises 23 to 27: what was seen and told, and coughs. */
final class TalkEdges {
    private final Check check;

    TalkEdges(Check check) {
        this.check = check;
    }

    void test() {
        breathsSeen();
        nothingSeenAnyMore();
        eightHours();
        enoughInEachHour();
        eachIsNeeded();
        threeAtMost();
        byNumber();
        nothingSeen();
        whoseOthers();
        breathsTold();
        twentyTold();
        toldOfOthers();
        falseTogether();
        falseByOne();
        falseAsOfNow();
        drawsOfCoughs();
        coughsEdges();
        coughOthers();
    }

    private void breathsSeen() {
        check.says(0, "WHOSE: SEEN were bubbles of a vase (8 at most; told): how many breaths in one HOUR behind the other");
        check.says(23, "SEEN: one more HOUR's breaths (0 .. 40;");
        BreathOnLoan x = new BreathOnLoan();
        check.same("0", x.seen(0), 1);
        check.same("40", x.seen(40), 2);
        check.same("two are seen", x.about(7), 2);
        check.says(23, "-2 for others,");
        check.refuses("seen", Scene::fresh, BreathOnLoan::seen, -2, -2, 41);
        check.refuses("seen", Scene::busy, BreathOnLoan::seen, -2, -2, 41);
    }

    private void nothingSeenAnyMore() {
        check.says(23, "NONE: nothing is SEEN any more): how many HOURS.");
        check.leaves("nothing of nothing", Scene::fresh, x -> x.seen(-1), 0);
        BreathOnLoan x = Scene.full();
        check.same("of eight", x.seen(-1), 0);
        check.same("none is seen", x.about(7), 0);
        check.same("no sets", x.whose(-1), 0);
        check.same("anew", x.seen(3), 1);
        check.same("the old ones are not asked", x.whose(-1), 6);
    }

    private void eightHours() {
        check.says(23, "or if there are 8.");
        BreathOnLoan x = new BreathOnLoan();
        for (int i = 1; i <= 8; i++) {
            check.same("seen " + i, x.seen(i), i);
        }
        check.same("the ninth", x.seen(9), -2);
        check.refuses("the ninth", Scene::full, BreathOnLoan::seen, -2, 0, 40);
    }

    private static BreathOnLoan crew(int... lungs) {
        BreathOnLoan x = new BreathOnLoan();
        for (int l : lungs) {
            x.blower(l, 0, 0);
        }
        return x;
    }

    private void sets(String what, BreathOnLoan x, int... due) {
        check.same(what + ": how many", x.whose(-1), due.length);
        for (int i = 0; i < due.length; i++) {
            check.same(what + ": set " + i, x.whose(i), due[i]);
        }
        check.same(what + ": no more", x.whose(due.length), -1);
    }

    private static BreathOnLoan saw(BreathOnLoan x, int... breaths) {
        for (int b : breaths) {
            x.seen(b);
        }
        return x;
    }

    private void enoughInEachHour() {
        check.says(0, "can have blown it, if in each of these HOURS LUNGS of all of them together are that many or more");
        sets("just enough", saw(crew(5), 5), 1);
        sets("one too many", saw(crew(5), 6));
        sets("in one hour too many", saw(crew(5), 1, 6, 1));
        sets("in the last hour too many", saw(crew(5), 1, 1, 6));
        sets("in the first hour too many", saw(crew(5), 6, 1, 1));
        sets("two together", saw(crew(5, 4), 9), 3);
        sets("two are one too few", saw(crew(5, 4), 10));
        sets("three together", saw(crew(5, 4, 3), 12), 7);
        sets("three are one too few", saw(crew(5, 4, 3), 13));
        sets("eight hours", saw(crew(5, 4), 9, 9, 9, 9, 9, 9, 9, 9), 3);
        sets("too many in the eighth", saw(crew(5, 4), 9, 9, 9, 9, 9, 9, 9, 10));
    }

    private void eachIsNeeded() {
        check.says(0, "and in some HOUR all but any one of them are fewer (of one alone: always)");
        sets("one of 5 is enough", saw(crew(5, 4), 5), 1);
        sets("both are needed", saw(crew(5, 4), 6), 3);
        sets("one alone, none seen in an hour", saw(crew(5, 4), 0), 1, 2);
        sets("needed in one hour", saw(crew(5, 4), 1, 6, 1), 3);
        sets("needed in no hour", saw(crew(5, 4), 1, 4, 1), 1, 2);
        sets("the weakest is not needed", saw(crew(5, 4, 1), 9), 3);
        sets("the weakest is needed", saw(crew(5, 4, 1), 10), 7);
        sets("without the strongest, too", saw(crew(5, 4, 4), 8), 3, 5, 6);
        sets("two of three", saw(crew(9, 9, 9), 18), 3, 5, 6);
        sets("three of three", saw(crew(9, 9, 9), 19), 7);
        sets("not by what each misses alone", saw(crew(5, 3, 2), 8), 3);
        sets("none seen in any hour", saw(crew(5, 3, 2), 0, 0), 1, 2, 4);
    }

    private void threeAtMost() {
        check.says(0, "A set of BLOWERS (3 at most, 1 at least)");
        sets("three of nine", saw(crew(9, 9, 9, 9), 27), 7, 11, 13, 14);
        sets("four would be needed", saw(crew(9, 9, 9, 9), 28));
        sets("not nobody", saw(crew(9), 0), 1);
        sets("nobody is there", saw(crew(), 0));
        sets("40 is too many for three", saw(crew(9, 9, 9, 9, 9, 9), 40));
    }

    private void byNumber() {
        check.says(0, "How many sets; the i-th by number");
        check.says(24, "WHOSE: how many sets (i NONE), the i-th.");
        sets("six", saw(crew(1, 2, 3, 4, 5, 6), 6), 7, 10, 12, 17, 18, 20, 24, 32);
        sets("all alone", saw(crew(9, 9, 9, 9, 9, 9), 9), 1, 2, 4, 8, 16, 32);
        sets("pairs", saw(crew(9, 9, 9, 9), 10), 3, 5, 6, 9, 10, 12);
        sets("twenty", saw(crew(9, 9, 9, 9, 9, 9), 19), 7, 11, 13, 14, 19, 21, 22, 25, 26, 28, 35, 37, 38, 41, 42, 44, 49, 50, 52, 56);
        check.leaves("to ask", Scene::busy, x -> x.whose(0), 2);
        check.leaves("how many", Scene::busy, x -> x.whose(-1), 2);
    }

    private void nothingSeen() {
        check.says(24, "(Nothing SEEN: no sets.)");
        sets("nothing", crew(9, 9));
        BreathOnLoan x = saw(crew(9, 9), 3);
        x.seen(-1);
        sets("nothing any more", x);
    }

    private void whoseOthers() {
        check.says(24, "NONE if there is none such, and for others.");
        check.refuses("whose", Scene::fresh, BreathOnLoan::whose, -1, 0, -2);
        check.refuses("whose", Scene::busy, BreathOnLoan::whose, -1, 2, -2);
        check.refuses("whose", () -> saw(crew(9, 9, 9, 9, 9, 9), 19), BreathOnLoan::whose, -1, 20, -2);
    }

    private void breathsTold() {
        check.says(0, "that a BLOWER gave n breaths (1 .. 9) to a PIECE (0 .. 9, begun or not) in an HOUR");
        check.says(25, "TOLD: how many there are.");
        BreathOnLoan x = crew(1, 1);
        check.same("the least of all", x.tell(0, 0, 1, 0), 1);
        check.same("the most of all", x.tell(1, 9, 9, 999), 2);
        check.same("the same again", x.tell(1, 9, 9, 999), 3);
        check.same("three are told", x.about(8), 3);
    }

    private void twentyTold() {
        check.says(0, "TOLD (20 at most)");
        check.says(25, "or if there are 20.");
        BreathOnLoan x = crew(1);
        for (int i = 1; i <= 20; i++) {
            check.same("tell " + i, x.tell(0, 0, 1, 0), i);
        }
        check.same("the 21st", x.tell(0, 0, 1, 0), -1);
        check.leaves("the 21st", Scene::full, y -> y.tell(0, 0, 1, 0), -1);
    }

    private void toldOfOthers() {
        check.says(25, "NONE for others,");
        check.refuses("blower", Scene::fresh, (x, n) -> x.tell(n, 0, 1, 0), -1, -1, 0);
        check.refuses("blower", Scene::busy, (x, n) -> x.tell(n, 0, 1, 0), -1, -1, 3);
        check.refuses("piece", Scene::busy, (x, n) -> x.tell(0, n, 1, 0), -1, -1, 10);
        check.refuses("n", Scene::busy, (x, n) -> x.tell(0, 0, n, 0), -1, 0, -1, 10);
        check.refuses("hour", Scene::busy, (x, n) -> x.tell(0, 0, 1, n), -1, -1, 1000);
    }

    /** Blowers 0 and 1 gave 2 and 3, and 4 breaths to piece 0 in hour 3; 0 gave 1 to piece 1 in hour 4. */
    private static BreathOnLoan gave() {
        BreathOnLoan x = Check.ruledBy("cost 0;");
        x.blower(9, 0, 0);
        x.blower(9, 0, 0);
        x.blower(9, 0, 0);
        x.kind(30, 0, 0);
        x.begin(0);
        x.begin(0);
        x.later(3);
        x.blow(0, 0, 2);
        x.blow(0, 1, 4);
        x.blow(0, 0, 3);
        x.later(1);
        x.blow(1, 0, 1);
        return x;
    }

    private void lie(String what, int due, int... told) {
        BreathOnLoan x = gave();
        for (int i = 0; i < told.length; i += 4) {
            x.tell(told[i], told[i + 1], told[i + 2], told[i + 3]);
        }
        check.same(what, x.liars(), due);
    }

    private void falseTogether() {
        check.says(0, "FALSE: what was TOLD is more, together for BLOWER, PIECE and HOUR, than BUBBLES say");
        lie("nothing is told", 0);
        lie("one less", 0, 0, 0, 4, 3);
        lie("just so", 0, 0, 0, 5, 3);
        lie("one more", 1, 0, 0, 6, 3);
        lie("just so, in two", 0, 0, 0, 2, 3, 0, 0, 3, 3);
        lie("one more, in two", 1, 0, 0, 3, 3, 0, 0, 3, 3);
        lie("nine and nine", 1, 0, 0, 9, 3, 0, 0, 9, 3);
        lie("one of another hour", 1, 0, 0, 1, 4);
        lie("one of another piece", 1, 0, 1, 1, 3);
        lie("that one", 0, 0, 1, 1, 4);
        lie("all that is true", 0, 0, 0, 5, 3, 0, 1, 1, 4, 1, 0, 4, 3);
        lie("one of a piece that isn't begun", 1, 0, 2, 1, 3);
        lie("one of an hour that is to come", 1, 0, 0, 1, 999);
    }

    private void falseByOne() {
        check.says(0, "how many BLOWERS (bits) told so");
        check.says(26, "FALSE (bits).");
        lie("another's", 2, 1, 0, 5, 3);
        lie("he gave none", 4, 2, 0, 1, 3);
        lie("two of them", 6, 1, 0, 5, 3, 0, 0, 5, 3, 2, 1, 1, 4);
        lie("all three", 7, 1, 0, 5, 3, 0, 0, 6, 3, 2, 1, 1, 4);
        lie("twice false by one", 2, 1, 0, 5, 3, 1, 1, 1, 4);
        lie("false and true by one", 2, 1, 0, 4, 3, 1, 1, 1, 4);
        check.leaves("to ask", Scene::busy, BreathOnLoan::liars, 2);
        check.same("six of six", Scene.full().liars(), 63);
        check.same("none of none", new BreathOnLoan().liars(), 0);
    }

    private void falseAsOfNow() {
        BreathOnLoan x = gave();
        x.tell(0, 1, 2, 4);
        check.same("not yet", x.liars(), 1);
        x.blow(1, 0, 1);
        check.same("true now", x.liars(), 0);
        x.undo();
        check.same("taken back", x.liars(), 1);
        check.same("what was told stays", x.about(8), 1);
    }

    private void drawsOfCoughs() {
        check.says(0, "COUGHS by a SEED: X is SEED (0 .. 9999) * 7 + 5; n HOURS (1 .. 30), BLOWER by BLOWER: X mod 10 below c (1 .. 10):"
                + " one breath is lost; X is (X * 181 + 37) mod 30103 then: how many of a BLOWER are lost");
        check.says(27, "COUGHS: how many of a BLOWER.");
        for (int crew : new int[] {1, 2, 6}) {
            BreathOnLoan x = new BreathOnLoan();
            for (int b = 0; b < crew; b++) {
                x.blower(1, 0, 0);
            }
            for (int seed : new int[] {0, 1, 4300, 4301, 9999}) {
                for (int n : new int[] {1, 2, 30}) {
                    for (int c : new int[] {1, 5, 10}) {
                        check.same("coughs(" + seed + ", " + n + ", " + c + ", " + (crew - 1) + ") of " + crew,
                                x.coughs(seed, n, c, crew - 1), drawn(seed, n, c, crew, crew - 1));
                    }
                }
            }
        }
    }

    private static int drawn(int seed, int n, int c, int crew, int blower) {
        long x = seed * 7L + 5;
        int lost = 0;
        for (int i = 0; i < n * crew; i++) {
            lost += i % crew == blower && x % 10 < c ? 1 : 0;
            x = (x * 181 + 37) % 30103;
        }
        return lost;
    }

    /** By seed 0 X is 5, 942, 20024, 12021; by seed 9999 it is 69998, 26345. */
    private void coughsEdges() {
        BreathOnLoan x = crew(1, 1);
        check.same("5 isn't below 5", x.coughs(0, 1, 5, 0), 0);
        check.same("5 is below 6", x.coughs(0, 1, 6, 0), 1);
        check.same("2 isn't below 2", x.coughs(0, 1, 2, 1), 0);
        check.same("2 is below 3", x.coughs(0, 1, 3, 1), 1);
        check.same("4 isn't below 4", x.coughs(0, 2, 4, 0), 0);
        check.same("4 is below 5", x.coughs(0, 2, 5, 0), 1);
        check.same("1 is below 2", x.coughs(0, 2, 2, 1), 1);
        check.same("1 isn't below 1", x.coughs(0, 2, 1, 1), 0);
        check.same("8 isn't below 8", x.coughs(9999, 1, 8, 0), 0);
        check.same("8 is below 9", x.coughs(9999, 1, 9, 0), 1);
        check.same("5 isn't below 5, of the highest seed", x.coughs(9999, 1, 5, 1), 0);
        check.same("5 is below 6, of the highest seed", x.coughs(9999, 1, 6, 1), 1);
        check.same("all of 30", x.coughs(0, 30, 10, 0), 30);
        check.says(0, "(Nothing is changed.)");
        check.leaves("coughs", Scene::busy, y -> y.coughs(77, 30, 10, 2), 30);
        check.leaves("coughs", Scene::full, y -> y.coughs(77, 30, 10, 5), 30);
    }

    private void coughOthers() {
        check.says(27, "NONE for others.");
        check.refuses("seed", Scene::busy, (x, n) -> x.coughs(n, 30, 10, 2), -1, -1, 10000);
        check.refuses("n", Scene::busy, (x, n) -> x.coughs(0, n, 10, 2), -1, 0, -1, 31);
        check.refuses("c", Scene::busy, (x, n) -> x.coughs(0, 30, n, 2), -1, 0, -1, 11);
        check.refuses("blower", Scene::busy, (x, n) -> x.coughs(0, 30, 10, n), -1, -1, 3);
        check.refuses("blower", Scene::fresh, (x, n) -> x.coughs(0, 30, 10, n), -1, -1, 0);
        check.refuses("blower", Scene::full, (x, n) -> x.coughs(0, 30, 10, n), -1, -1, 6);
        BreathOnLoan x = crew(1);
        check.yes("the least of all", x.coughs(0, 1, 1, 0) >= 0);
        check.same("the most of all", x.coughs(9999, 30, 10, 0), 30);
    }
}
