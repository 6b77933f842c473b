/** Part II of the Terms: tokens, clauses and sums that stand, and those next to them that do not. */
final class GrammarEdges {
    private final Check check;

    GrammarEdges(Check check) {
        this.check = check;
    }

    void test() {
        blanks();
        words();
        numbers();
        longestSigns();
        clauses();
        lawClauses();
        deedClauses();
        sums();
        products();
        ones();
        eithers();
        boths();
        asks();
        names();
    }

    private void stands(String text) {
        check.fault(text, 0, -1);
    }

    private void blanks() {
        check.says(0, "TOKENS, blanks (32, 10) aside");
        stands("smoke 1;");
        stands("smoke\n1;");
        stands(" \n smoke \n\n 1 \n ; \n ");
        stands("begin0;blow9by5give9;wait99;");
        stands(" ");
        stands("\n");
        for (int b : new int[] {0, 9, 11, 12, 13, 31, 127, 160}) {
            check.fault("smoke" + (char) b + "1;", 1, 5);
            check.fault("smoke 1;" + (char) b, 1, 8);
        }
        check.fault("smo ke 1;", 1, 0);
        check.fault("smoke 1 2;", 1, 8);
    }

    private void words() {
        check.says(0, "letters a .. z, A .. Z one behind the other (one TOKEN)");
        for (char letter : new char[] {'a', 'z', 'A', 'Z', 'm', 'M'}) {
            check.fault("smoke hour" + letter + ";", 1, 6);
            check.fault("smoke " + letter + "hour;", 1, 6);
        }
        for (char sign : new char[] {'@', '[', '`', '{', '_'}) {
            check.fault("smoke hour" + sign + ";", 1, 10);
            check.fault("smoke " + sign + "hour;", 1, 6);
        }
        check.fault("Smoke 1;", 1, 0);
        check.fault("SMOKE 1;", 1, 0);
        check.fault("smok 1;", 1, 0);
        check.fault("smokes 1;", 1, 0);
        check.fault("smoke hou;", 1, 6);
        check.fault("smoke hours;", 1, 6);
        check.fault("smoke Hour;", 1, 6);
        check.fault("smoke" + "e".repeat(294), 1, 0);
        stands("smoke if 1<2?1:2end;");
        check.fault("smokehour;", 1, 0);
    }

    private void numbers() {
        check.says(0, "digits likewise (NUMBERS, 0 .. 9999)");
        check.sum("0", 0);
        check.sum("9", 9);
        check.sum("09", 9);
        check.sum("0000000000000000000000012", 12);
        check.sum("9999-9989", 10);
        check.fault("smoke 10000;", 2, 6);
        check.fault("smoke 010000;", 2, 6);
        check.fault("smoke 65536;", 2, 6);
        check.fault("smoke 4294967296;", 2, 6);
        check.fault("smoke 4294967297;", 2, 6);
        check.fault("smoke 18446744073709551617;", 2, 6);
        check.fault("smoke " + "9".repeat(200) + ";", 2, 6);
        check.fault("smoke 1 2;", 1, 8);
        check.fault("smoke 1a;", 1, 7);
        stands("smoke 1/2;");
        stands("smoke if 1=2?3:4end;");
        check.fault("smoke .5;", 1, 6);
    }

    private void longestSigns() {
        check.says(0, "<= >= < > = # + - * / ( ) ; ? : (the longest)");
        for (String sign : new String[] {"<=", ">=", "<", ">", "=", "#"}) {
            stands("smoke if 1" + sign + "2?3:4 end;");
        }
        check.fault("smoke if 1< =2?3:4 end;", 1, 12);
        check.fault("smoke if 1> =2?3:4 end;", 1, 12);
        check.fault("smoke if 1=<2?3:4 end;", 1, 11);
        check.fault("smoke if 1=>2?3:4 end;", 1, 11);
        check.fault("smoke if 1<<2?3:4 end;", 1, 11);
        check.fault("smoke if 1>>2?3:4 end;", 1, 11);
        check.fault("smoke if 1==2?3:4 end;", 1, 11);
        check.fault("smoke if 1<>2?3:4 end;", 1, 11);
        check.fault("smoke if 1<==2?3:4 end;", 1, 12);
        check.fault("smoke if 1>==2?3:4 end;", 1, 12);
        check.fault("smoke if 1##2?3:4 end;", 1, 11);
        check.fault("smoke if 1<", 1, 11);
        check.fault("smoke if 1<=", 1, 12);
        stands("smoke (1+2-3)*4/5;");
        for (char sign : new char[] {'!', '"', '$', '%', '&', '\'', ',', '.', '\\', ']', '^', '|', '}', '~'}) {
            check.fault("smoke 1" + sign + ";", 1, 7);
        }
    }

    private void clauses() {
        check.says(0, "{CLAUSE}, 24 at most");
        stands("");
        stands("wait 1;");
        stands("wait 1;".repeat(23));
        stands("wait 1;".repeat(24));
        stands("wait 1;".repeat(24) + " \n ");
        stands("smoke 1;" + "wait 1;".repeat(20) + "cost 1;brittle 1;share 1;");
        check.fault("wait 1;".repeat(25), 6, 168);
        check.fault("wait 1", 1, 6);
        check.fault("wait 1;;", 1, 7);
        check.fault(";", 1, 0);
        BreathOnLoan x = new BreathOnLoan();
        Check.read(x, "wait 1;".repeat(24));
        check.same("all 24", x.played(0), -1);
        check.same("are played", x.about(3), 24);
    }

    private void lawClauses() {
        check.says(0, "smoke SUM ; or cost SUM ; or brittle SUM ; or share SUM ; (each once)");
        String[] laws = {"smoke", "cost", "brittle", "share"};
        for (String law : laws) {
            stands(law + " 1;");
            check.fault(law + ";", 1, law.length());
            check.fault(law + " 1", 1, law.length() + 2);
            check.fault(law + " 1,", 1, law.length() + 2);
            check.fault(law + " 1;" + law + " 1;", 4, law.length() + 3);
            for (String other : laws) {
                if (!other.equals(law)) {
                    stands(law + " 1;" + other + " 2;");
                }
            }
        }
        stands("share 1;brittle 1;cost 1;smoke 1;");
    }

    private void deedClauses() {
        check.says(0, "or begin NUMBER ; or blow NUMBER by NUMBER give NUMBER ; or wait NUMBER ;");
        stands("begin 0;begin 0;");
        stands("blow 0 by 0 give 1;blow 0 by 0 give 1;");
        stands("wait 1;wait 1;");
        check.fault("begin;", 1, 5);
        check.fault("begin -1;", 1, 6);
        check.fault("begin (1);", 1, 6);
        check.fault("begin hour;", 1, 6);
        check.fault("begin 1 1;", 1, 8);
        check.fault("begin 1", 1, 7);
        check.fault("blow;", 1, 4);
        check.fault("blow 0;", 1, 6);
        check.fault("blow 0 by;", 1, 9);
        check.fault("blow 0 by 0;", 1, 11);
        check.fault("blow 0 by 0 give;", 1, 16);
        check.fault("blow 0 by 0 give 1", 1, 18);
        check.fault("blow 0 give 1 by 0;", 1, 7);
        check.fault("blow 0 0 give 1;", 1, 7);
        check.fault("blow 0 by 0 1;", 1, 12);
        check.fault("wait;", 1, 4);
        check.fault("wait hour;", 1, 5);
        check.fault("wait 1+1;", 1, 6);
        check.fault("by 1;", 1, 0);
        check.fault("give 1;", 1, 0);
    }

    private void sums() {
        check.says(0, "SUM: PRODUCT {+ or - PRODUCT}");
        check.sum("5", 5);
        check.sum("5+6", 11);
        check.sum("5-3", 2);
        check.sum("1+2+3-4+5", 7);
        check.fault("smoke +5;", 1, 6);
        check.fault("smoke 5+;", 1, 8);
        check.fault("smoke 5-;", 1, 8);
        check.fault("smoke 5++5;", 1, 8);
        check.fault("smoke 5 5;", 1, 8);
        stands("smoke 5--5;");
    }

    private void products() {
        check.says(0, "PRODUCT: ONE {* or / ONE}");
        check.sum("5*6", 30);
        check.sum("30/6", 5);
        check.sum("2*3*4/6*5", 20);
        check.sum("2+3*4-8/2", 10);
        check.fault("smoke *5;", 1, 6);
        check.fault("smoke /5;", 1, 6);
        check.fault("smoke 5*;", 1, 8);
        check.fault("smoke 5/;", 1, 8);
        check.fault("smoke 5**5;", 1, 8);
        check.fault("smoke 5*+5;", 1, 8);
        check.sum("-5*-5", 25);
    }

    private void ones() {
        check.says(0, "ONE: NUMBER, NAME, ( SUM ), - ONE, or if EITHER ? SUM : SUM end");
        check.sum("hour", 7);
        check.sum("(7)", 7);
        check.sum("(3+4)*2", 14);
        check.sum("40-(3+4)", 33);
        check.sum("-5+9", 4);
        check.sum("--5", 5);
        check.sum("-(2-9)", 7);
        check.sum("-if 1<2?0-5:6 end", 5);
        check.sum("if 1<2?5:6 end", 5);
        check.sum("if 2<1?5:6 end*2", 12);
        check.sum("(if 1<2?1+1:6 end)", 2);
        check.sum("if if 1<2?1:2 end<2?if 1>2?3:4 end:5 end", 4);
        check.fault("smoke ();", 1, 7);
        check.fault("smoke (1;", 1, 8);
        check.fault("smoke (1;)", 1, 8);
        check.fault("smoke 1);", 1, 7);
        check.fault("smoke -;", 1, 7);
        check.fault("smoke if?1:2 end;", 1, 8);
        check.fault("smoke if 1<2 1:2 end;", 1, 13);
        check.fault("smoke if 1<2?:2 end;", 1, 13);
        check.fault("smoke if 1<2?1 2 end;", 1, 15);
        check.fault("smoke if 1<2?1;", 1, 14);
        check.fault("smoke if 1<2?1:end;", 1, 15);
        check.fault("smoke if 1<2?1:2;", 1, 16);
        check.fault("smoke if 1<2?1<2:2 end;", 1, 14);
        check.fault("smoke end;", 1, 6);
        check.fault("smoke by;", 1, 6);
        check.fault("smoke smoke;", 1, 6);
        check.fault("smoke 1<2;", 1, 7);
    }

    private void eithers() {
        check.says(0, "EITHER: BOTH {or BOTH}");
        check.sum("if 1=2 or 1=1?1:2 end", 1);
        check.sum("if 1=1 or 1=2?1:2 end", 1);
        check.sum("if 1=1 or 1=1?1:2 end", 1);
        check.sum("if 1=2 or 1=2?1:2 end", 2);
        check.sum("if 1=2 or 1=2 or 1=1?1:2 end", 1);
        check.sum("if 1=1 or 1=1 and 1=2?1:2 end", 1);
        check.sum("if 1=2 and 1=1 or 1=1?1:2 end", 1);
        check.fault("smoke if or 1=1?1:2 end;", 1, 9);
        check.fault("smoke if 1=1 or?1:2 end;", 1, 15);
        check.fault("smoke if 1=1 or or 1=1?1:2 end;", 1, 16);
        check.fault("smoke if 1 or 2=1?1:2 end;", 1, 11);
    }

    private void boths() {
        check.says(0, "BOTH: ASK {and ASK}");
        check.sum("if 1=1 and 1=1?1:2 end", 1);
        check.sum("if 1=1 and 1=2?1:2 end", 2);
        check.sum("if 1=2 and 1=1?1:2 end", 2);
        check.sum("if 1=2 and 1=2?1:2 end", 2);
        check.sum("if 1=1 and 1=1 and 1=2?1:2 end", 2);
        check.fault("smoke if and 1=1?1:2 end;", 1, 9);
        check.fault("smoke if 1=1 and?1:2 end;", 1, 16);
        check.fault("smoke if 1 and 2=1?1:2 end;", 1, 11);
    }

    private void asks() {
        check.says(0, "ASK: not ASK, or SUM one of < <= > >= = # (unlike) SUM");
        String[] signs = {"<", "<=", ">", ">=", "=", "#"};
        int[][] due = {{1, 2, 2}, {1, 1, 2}, {2, 2, 1}, {2, 1, 1}, {2, 1, 2}, {1, 2, 1}};
        for (int i = 0; i < signs.length; i++) {
            for (int left = 6; left <= 8; left++) {
                check.sum("if " + left + signs[i] + "hour?1:2 end", due[i][left - 6]);
                check.sum("if not " + left + signs[i] + "hour?1:2 end", 3 - due[i][left - 6]);
                check.sum("if not not " + left + signs[i] + "hour?1:2 end", due[i][left - 6]);
            }
        }
        check.sum("if not 1=2 and 1=2?1:2 end", 2);
        check.sum("if not 1=1 or 1=1?1:2 end", 1);
        check.sum("if 1+2*3=14/2?1:2 end", 1);
        check.sum("if (1)<(2)?1:2 end", 1);
        check.fault("smoke if 1?1:2 end;", 1, 10);
        check.fault("smoke if 1<2<3?1:2 end;", 1, 12);
        check.fault("smoke if (1<2)?1:2 end;", 1, 11);
        check.fault("smoke if not (1<2)?1:2 end;", 1, 15);
        check.fault("smoke if not?1:2 end;", 1, 12);
        check.fault("smoke if 1<not 2<3?1:2 end;", 1, 11);
        check.fault("smoke not 1<2;", 1, 6);
        check.fault("smoke if <2?1:2 end;", 1, 9);
    }

    /** Which of smoke, cost, brittle and share have a name. */
    private void namesOf(String laws, String... names) {
        for (String law : new String[] {"smoke", "cost", "brittle", "share"}) {
            for (String name : names) {
                boolean has = laws.contains(law);
                check.fault(law + " " + name + ";", has ? 0 : 5, has ? -1 : law.length() + 1);
            }
        }
    }

    private void names() {
        check.says(0, "NAMES: hour in all");
        namesOf("smoke cost brittle share", "hour");
        check.says(0, "blower, lungs, voice, beads in cost and share");
        namesOf("cost share", "blower", "lungs", "voice", "beads");
        check.says(0, "kind, want, worth in brittle and share");
        namesOf("brittle share", "kind", "want", "worth");
        check.says(0, "breaths (his own) in share");
        namesOf("share", "breaths");
        check.says(0, "quarrels (how many pairs of those who gave some QUARREL), many (how many gave some) in brittle");
        namesOf("brittle", "quarrels", "many");
    }
}
