/** Part II of the Terms: tokens, clauses and sums that stand, and those next to them that do not. */
final class GrammarEdges {
    private final Check check;

    GrammarEdges(Check check) {
        this.check = check;
    }

    void test() {
        blanks();
        words();
        numbers();
        longestSigns();
        clauses();
        lawClauses();
        deedClauses();
        sums();
        products();
        ones();
        eithers();
        boths();
        asks();
        names();
    }

    private void stands(String text) {
        faulty(text, 0, -1);
    }

    private void faulty(String text, int fault, int place) {
        BreathOnLoan x = new BreathOnLoan();
        check.same("text '" + text + "'", Check.read(x, text), fault == 0 ? 0 : -1);
        check.same("fault of '" + text + "'", x.fault(0), fault);
        check.same("place in '" + text + "'", x.fault(1), place);
    }

    private void sum(String sum, int due) {
        BreathOnLoan x = Check.ruledBy("smoke " + sum + ";");
        check.same(sum, x.smoke(7), due);
    }

    private void blanks() {
        check.says(0, "TOKENS, blanks (32, 10) aside");
        stands("smoke 1;");
        stands("smoke\n1;");
        stands(" \n smoke \n\n 1 \n ; \n ");
        stands("begin0;blow9by5give9;wait99;");
        stands(" ");
        stands("\n");
        for (int b : new int[] {0, 9, 11, 12, 13, 31, 127, 160}) {
            faulty("smoke" + (char) b + "1;", 1, 5);
            faulty("smoke 1;" + (char) b, 1, 8);
        }
        faulty("smo ke 1;", 1, 0);
        faulty("smoke 1 2;", 1, 8);
    }

    private void words() {
        check.says(0, "letters a .. z, A .. Z one behind the other (one TOKEN)");
        for (char letter : new char[] {'a', 'z', 'A', 'Z', 'm', 'M'}) {
            faulty("smoke hour" + letter + ";", 1, 6);
            faulty("smoke " + letter + "hour;", 1, 6);
        }
        for (char sign : new char[] {'@', '[', '`', '{', '_'}) {
            faulty("smoke hour" + sign + ";", 1, 10);
            faulty("smoke " + sign + "hour;", 1, 6);
        }
        faulty("Smoke 1;", 1, 0);
        faulty("SMOKE 1;", 1, 0);
        faulty("smok 1;", 1, 0);
        faulty("smokes 1;", 1, 0);
        faulty("smoke hou;", 1, 6);
        faulty("smoke hours;", 1, 6);
        faulty("smoke Hour;", 1, 6);
        faulty("smoke" + "e".repeat(294), 1, 0);
        stands("smoke if 1<2?1:2end;");
        faulty("smokehour;", 1, 0);
    }

    private void numbers() {
        check.says(0, "digits likewise (NUMBERS, 0 .. 9999)");
        sum("0", 0);
        sum("9", 9);
        sum("09", 9);
        sum("0000000000000000000000012", 12);
        sum("9999-9989", 10);
        faulty("smoke 10000;", 2, 6);
        faulty("smoke 010000;", 2, 6);
        faulty("smoke 65536;", 2, 6);
        faulty("smoke 4294967296;", 2, 6);
        faulty("smoke 4294967297;", 2, 6);
        faulty("smoke 18446744073709551617;", 2, 6);
        faulty("smoke " + "9".repeat(200) + ";", 2, 6);
        faulty("smoke 1 2;", 1, 8);
        faulty("smoke 1a;", 1, 7);
        stands("smoke 1/2;");
        stands("smoke if 1=2?3:4end;");
        faulty("smoke .5;", 1, 6);
    }

    private void longestSigns() {
        check.says(0, "<= >= < > = # + - * / ( ) ; ? : (the longest)");
        for (String sign : new String[] {"<=", ">=", "<", ">", "=", "#"}) {
            stands("smoke if 1" + sign + "2?3:4 end;");
        }
        faulty("smoke if 1< =2?3:4 end;", 1, 12);
        faulty("smoke if 1> =2?3:4 end;", 1, 12);
        faulty("smoke if 1=<2?3:4 end;", 1, 11);
        faulty("smoke if 1=>2?3:4 end;", 1, 11);
        faulty("smoke if 1<<2?3:4 end;", 1, 11);
        faulty("smoke if 1>>2?3:4 end;", 1, 11);
        faulty("smoke if 1==2?3:4 end;", 1, 11);
        faulty("smoke if 1<>2?3:4 end;", 1, 11);
        faulty("smoke if 1<==2?3:4 end;", 1, 12);
        faulty("smoke if 1>==2?3:4 end;", 1, 12);
        faulty("smoke if 1##2?3:4 end;", 1, 11);
        faulty("smoke if 1<", 1, 11);
        faulty("smoke if 1<=", 1, 12);
        stands("smoke (1+2-3)*4/5;");
        for (char sign : new char[] {'!', '"', '$', '%', '&', '\'', ',', '.', '\\', ']', '^', '|', '}', '~'}) {
            faulty("smoke 1" + sign + ";", 1, 7);
        }
    }

    private void clauses() {
        check.says(0, "{CLAUSE}, 24 at most");
        stands("");
        stands("wait 1;");
        stands("wait 1;".repeat(23));
        stands("wait 1;".repeat(24));
        stands("wait 1;".repeat(24) + " \n ");
        stands("smoke 1;" + "wait 1;".repeat(20) + "cost 1;brittle 1;share 1;");
        faulty("wait 1;".repeat(25), 6, 168);
        faulty("wait 1", 1, 6);
        faulty("wait 1;;", 1, 7);
        faulty(";", 1, 0);
        BreathOnLoan x = new BreathOnLoan();
        Check.read(x, "wait 1;".repeat(24));
        check.same("all 24", x.played(0), -1);
        check.same("are played", x.about(3), 24);
    }

    private void lawClauses() {
        check.says(0, "smoke SUM ; or cost SUM ; or brittle SUM ; or share SUM ; (each once)");
        String[] laws = {"smoke", "cost", "brittle", "share"};
        for (String law : laws) {
            stands(law + " 1;");
            faulty(law + ";", 1, law.length());
            faulty(law + " 1", 1, law.length() + 2);
            faulty(law + " 1,", 1, law.length() + 2);
            faulty(law + " 1;" + law + " 1;", 4, law.length() + 3);
            for (String other : laws) {
                if (!other.equals(law)) {
                    stands(law + " 1;" + other + " 2;");
                }
            }
        }
        stands("share 1;brittle 1;cost 1;smoke 1;");
    }

    private void deedClauses() {
        check.says(0, "or begin NUMBER ; or blow NUMBER by NUMBER give NUMBER ; or wait NUMBER ;");
        stands("begin 0;begin 0;");
        stands("blow 0 by 0 give 1;blow 0 by 0 give 1;");
        stands("wait 1;wait 1;");
        faulty("begin;", 1, 5);
        faulty("begin -1;", 1, 6);
        faulty("begin (1);", 1, 6);
        faulty("begin hour;", 1, 6);
        faulty("begin 1 1;", 1, 8);
        faulty("begin 1", 1, 7);
        faulty("blow;", 1, 4);
        faulty("blow 0;", 1, 6);
        faulty("blow 0 by;", 1, 9);
        faulty("blow 0 by 0;", 1, 11);
        faulty("blow 0 by 0 give;", 1, 16);
        faulty("blow 0 by 0 give 1", 1, 18);
        faulty("blow 0 give 1 by 0;", 1, 7);
        faulty("blow 0 0 give 1;", 1, 7);
        faulty("blow 0 by 0 1;", 1, 12);
        faulty("wait;", 1, 4);
        faulty("wait hour;", 1, 5);
        faulty("wait 1+1;", 1, 6);
        faulty("by 1;", 1, 0);
        faulty("give 1;", 1, 0);
    }

    private void sums() {
        check.says(0, "SUM: PRODUCT {+ or - PRODUCT}");
        sum("5", 5);
        sum("5+6", 11);
        sum("5-3", 2);
        sum("1+2+3-4+5", 7);
        faulty("smoke +5;", 1, 6);
        faulty("smoke 5+;", 1, 8);
        faulty("smoke 5-;", 1, 8);
        faulty("smoke 5++5;", 1, 8);
        faulty("smoke 5 5;", 1, 8);
        stands("smoke 5--5;");
    }

    private void products() {
        check.says(0, "PRODUCT: ONE {* or / ONE}");
        sum("5*6", 30);
        sum("30/6", 5);
        sum("2*3*4/6*5", 20);
        sum("2+3*4-8/2", 10);
        faulty("smoke *5;", 1, 6);
        faulty("smoke /5;", 1, 6);
        faulty("smoke 5*;", 1, 8);
        faulty("smoke 5/;", 1, 8);
        faulty("smoke 5**5;", 1, 8);
        faulty("smoke 5*+5;", 1, 8);
        sum("-5*-5", 25);
    }

    private void ones() {
        check.says(0, "ONE: NUMBER, NAME, ( SUM ), - ONE, or if EITHER ? SUM : SUM end");
        sum("hour", 7);
        sum("(7)", 7);
        sum("(3+4)*2", 14);
        sum("40-(3+4)", 33);
        sum("-5+9", 4);
        sum("--5", 5);
        sum("-(2-9)", 7);
        sum("-if 1<2?0-5:6 end", 5);
        sum("if 1<2?5:6 end", 5);
        sum("if 2<1?5:6 end*2", 12);
        sum("(if 1<2?1+1:6 end)", 2);
        sum("if if 1<2?1:2 end<2?if 1>2?3:4 end:5 end", 4);
        faulty("smoke ();", 1, 7);
        faulty("smoke (1;", 1, 8);
        faulty("smoke (1;)", 1, 8);
        faulty("smoke 1);", 1, 7);
        faulty("smoke -;", 1, 7);
        faulty("smoke if?1:2 end;", 1, 8);
        faulty("smoke if 1<2 1:2 end;", 1, 13);
        faulty("smoke if 1<2?:2 end;", 1, 13);
        faulty("smoke if 1<2?1 2 end;", 1, 15);
        faulty("smoke if 1<2?1;", 1, 14);
        faulty("smoke if 1<2?1:end;", 1, 15);
        faulty("smoke if 1<2?1:2;", 1, 16);
        faulty("smoke if 1<2?1<2:2 end;", 1, 14);
        faulty("smoke end;", 1, 6);
        faulty("smoke by;", 1, 6);
        faulty("smoke smoke;", 1, 6);
        faulty("smoke 1<2;", 1, 7);
    }

    private void eithers() {
        check.says(0, "EITHER: BOTH {or BOTH}");
        sum("if 1=2 or 1=1?1:2 end", 1);
        sum("if 1=1 or 1=2?1:2 end", 1);
        sum("if 1=1 or 1=1?1:2 end", 1);
        sum("if 1=2 or 1=2?1:2 end", 2);
        sum("if 1=2 or 1=2 or 1=1?1:2 end", 1);
        sum("if 1=1 or 1=1 and 1=2?1:2 end", 1);
        sum("if 1=2 and 1=1 or 1=1?1:2 end", 1);
        faulty("smoke if or 1=1?1:2 end;", 1, 9);
        faulty("smoke if 1=1 or?1:2 end;", 1, 15);
        faulty("smoke if 1=1 or or 1=1?1:2 end;", 1, 16);
        faulty("smoke if 1 or 2=1?1:2 end;", 1, 11);
    }

    private void boths() {
        check.says(0, "BOTH: ASK {and ASK}");
        sum("if 1=1 and 1=1?1:2 end", 1);
        sum("if 1=1 and 1=2?1:2 end", 2);
        sum("if 1=2 and 1=1?1:2 end", 2);
        sum("if 1=2 and 1=2?1:2 end", 2);
        sum("if 1=1 and 1=1 and 1=2?1:2 end", 2);
        faulty("smoke if and 1=1?1:2 end;", 1, 9);
        faulty("smoke if 1=1 and?1:2 end;", 1, 16);
        faulty("smoke if 1 and 2=1?1:2 end;", 1, 11);
    }

    private void asks() {
        check.says(0, "ASK: not ASK, or SUM one of < <= > >= = # (unlike) SUM");
        String[] signs = {"<", "<=", ">", ">=", "=", "#"};
        int[][] due = {{1, 2, 2}, {1, 1, 2}, {2, 2, 1}, {2, 1, 1}, {2, 1, 2}, {1, 2, 1}};
        for (int i = 0; i < signs.length; i++) {
            for (int left = 6; left <= 8; left++) {
                sum("if " + left + signs[i] + "hour?1:2 end", due[i][left - 6]);
                sum("if not " + left + signs[i] + "hour?1:2 end", 3 - due[i][left - 6]);
                sum("if not not " + left + signs[i] + "hour?1:2 end", due[i][left - 6]);
            }
        }
        sum("if not 1=2 and 1=2?1:2 end", 2);
        sum("if not 1=1 or 1=1?1:2 end", 1);
        sum("if 1+2*3=14/2?1:2 end", 1);
        sum("if (1)<(2)?1:2 end", 1);
        faulty("smoke if 1?1:2 end;", 1, 10);
        faulty("smoke if 1<2<3?1:2 end;", 1, 12);
        faulty("smoke if (1<2)?1:2 end;", 1, 11);
        faulty("smoke if not (1<2)?1:2 end;", 1, 15);
        faulty("smoke if not?1:2 end;", 1, 12);
        faulty("smoke if 1<not 2<3?1:2 end;", 1, 11);
        faulty("smoke not 1<2;", 1, 6);
        faulty("smoke if <2?1:2 end;", 1, 9);
    }

    /** Which of smoke, cost, brittle and share have a name. */
    private void namesOf(String laws, String... names) {
        for (String law : new String[] {"smoke", "cost", "brittle", "share"}) {
            for (String name : names) {
                boolean has = laws.contains(law);
                faulty(law + " " + name + ";", has ? 0 : 5, has ? -1 : law.length() + 1);
            }
        }
    }

    private void names() {
        check.says(0, "NAMES: hour in all");
        namesOf("smoke cost brittle share", "hour");
        check.says(0, "blower, lungs, voice, beads in cost and share");
        namesOf("cost share", "blower", "lungs", "voice", "beads");
        check.says(0, "kind, want, worth in brittle and share");
        namesOf("brittle share", "kind", "want", "worth");
        check.says(0, "breaths (his own) in share");
        namesOf("share", "breaths");
        check.says(0, "quarrels (how many pairs of those who gave some QUARREL), many (how many gave some) in brittle");
        namesOf("brittle", "quarrels", "many");
    }
}
