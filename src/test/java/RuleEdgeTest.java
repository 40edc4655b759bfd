/** Promise 5, with the language of RULES: a test for each sentence that names a boundary case. */
public final class RuleEdgeTest {
    public static void main(String[] args) throws IllegalAccessException {
        Edge.run(RuleEdgeTest.class);
    }

    /** 6 RULES, all of them different: by the RULE of number n the BALE n is taken. */
    private static ClothEnds sixRules() {
        ClothEnds x = Check.with(Check.times("bale 40 1 0 0", 6, ";"));
        for (int i = 0; i < 6; i++) {
            Check.rule(x, "from 0 if bale=" + i);
        }
        return x;
    }

    // ---- what the call does

    @Sentence(promise = 5, says = "The TAPE, which is empty then, is a RULE: its number")
    static void rulesByNumber(Edge e) {
        ClothEnds x = Check.with(Check.times("bale 40 1 0 0", 6, ";"));
        e.due("RULES", x.count(1), 0);
        for (int i = 0; i < 6; i++) {
            e.due("rule", Check.rule(x, "from 0 if bale=" + i), i);
            e.due("count(10)", x.count(10), 0);
            e.due("RULES", x.count(1), i + 1);
        }
        for (int i = 0; i < 6; i++) {
            e.due("serve by RULE " + i, x.serve(i, 2), i);
        }
    }

    @Sentence(promise = 5, says = "-2 - its FAULT")
    static void aFaultIsNoRule(Edge e) {
        ClothEnds x = Check.with("bale 9 1 0 0;bale 9 1 0 0");
        e.due("rule of an empty TAPE", x.rule(), -3);
        e.due("rule", Check.rule(x, "from 0 if bale=1"), 0);
        e.due("rule with a FAULT", Check.rule(x, "from 0;from"), -2 - (1 + 8 * 11));
        e.due("count(10)", x.count(10), 0);
        e.due("RULES", x.count(1), 1);
        e.due("the RULE is as it was", x.serve(0, 1), 1);
        e.due("the next one", Check.rule(x, "from 0"), 1);
        e.due("serve by it", x.serve(1, 1), 0);
    }

    @Sentence(promise = 5, says = "-2 - its FAULT")
    static void nothingOfAFaultIsLeft(Edge e) {
        ClothEnds x = Check.with("bale 9 1 0 0;bale 9 2 0 0");
        for (int i = 0; i < 8; i++) {
            e.due("60 VALUES", Check.rule(x, "from " + Check.times("1", 60, "*") + "?"), Check.fault(124, 0));
            e.due("9 deep", Check.rule(x, "give " + open(9) + "1=2 or not"), Check.fault(24, 0));
        }
        e.due("10 deep", Check.rule(x, "from 0 if " + open(10) + "bale=1" + close(10)), 0);
        e.due("serve by it", x.serve(0, 1), 1);
        e.due("60 VALUES", Check.rule(x, "from " + Check.times("1", 59, "*") + "-width"), 1);
        e.due("serve by it", x.serve(1, 1), 1);
        e.due("60 VALUES", Check.rule(x, "from " + Check.times("1", 60, "*")), 2);
        e.due("serve by it", x.serve(2, 1), 0);
        e.due("a ] of no [", Check.rule(x, "give 1=1]"), Check.fault(8, 0));
        e.due("not, [ and or that wait no more", Check.rule(x, "from 0 if bale=0 and not[bale=1]"), 3);
        e.due("serve by it", x.serve(3, 1), 0);
    }

    @Sentence(promise = 5, says = "NONE, and nothing happens: there are 6")
    static void aSeventhRule(Edge e) {
        ClothEnds x = sixRules();
        e.due("a seventh", Check.rule(x, "from 0"), -1);
        e.due("count(10)", x.count(10), 6);
        e.due("RULES", x.count(1), 6);
        e.due("a seventh with a FAULT", Check.rule(x, "from"), -1);
        e.due("count(10)", x.count(10), 4);
        x.end(0);
        e.due("a seventh of an empty TAPE", x.rule(), -1);
        for (int i = 0; i < 6; i++) {
            e.due("serve by RULE " + i, x.serve(i, 2), i);
        }
        e.due("serve by RULE 6", x.serve(6, 2), -2);
    }

    @Sentence(promise = 5, says = "(neither counted by STATUS)")
    static void notCounted(Edge e) {
        e.answers(() -> {
            ClothEnds x = Edge.rich();
            x.end(0);
            return x;
        }, "a FAULT", x -> Check.rule(x, "give"), Check.fault(4, 0));
        e.answersNone(() -> {
            ClothEnds x = sixRules();
            Check.tape(x, "from 1");
            return x;
        }, "a seventh", x -> x.rule());
    }

    @Sentence(promise = 5, says = "RULES 0 to 5: texts likewise, 12 CLAUSES at most")
    static void twelveClauses(Edge e) {
        e.rule("from 1", 0);
        e.rule("give 1=1", 0);
        e.rule(Check.times("from 1", 12, ";"), 0);
        e.rule(Check.times("give 1=1", 12, " ; "), 0);
        e.ruleFault(Check.times("from 1", 13, ";"), 84, 4);
        e.ruleFault("", 0, 0);
        e.ruleFault("from 1;", 7, 0);
        e.ruleFault(";from 1", 0, 0);
        ClothEnds x = Check.with("bale 9 1 0 0;bale 9 2 0 0;board 9");
        e.due("rule", Check.rule(x, Check.times("from 0 if 1=2;", 11, "") + "from 0-width"), 0);
        e.due("the twelfth CLAUSE", x.serve(0, 2), 1);
    }

    @Sentence(promise = 5, says = "texts likewise")
    static void aTextOf400(Edge e) {
        e.rule(Check.times(" ", 394, "") + "from 1", 0);
        e.rule("from 1" + Check.times(" ", 394, ""), 0);
        e.ruleFault(Check.times(" ", 400, ""), 400, 0);
        e.ruleFault(Check.times(" ", 396, "") + "from", 400, 0);
        e.ruleFault(Check.times(" ", 399, "") + "?", 399, 0);
        // 400 bytes with as many CLAUSES, VALUES and SIGNS as there can be, that end with a [
        String text = Check.times("from 1;", 11, "") + "give [[[[[[[[[[" + Check.times("1=1", 16, " or ");
        e.rule(text + "]]]]]]]]]]", 0);
        e.ruleFault(text + Check.times(" ", 399 - text.length(), "") + "[", 399, 0);
    }

    // ---- the language

    @Sentence(promise = 5, says = "from SUM [ if TEST ] | give TEST")
    static void whatAClauseNeeds(Edge e) {
        e.ruleFault("from", 4, 0);
        e.ruleFault("from ;", 5, 0);
        e.ruleFault("from if 1=1", 5, 0);
        e.ruleFault("from 1 if", 9, 0);
        e.ruleFault("from 1 if;", 9, 0);
        e.ruleFault("from 1 if 1", 11, 0);
        e.ruleFault("from 1=1", 6, 0);
        e.ruleFault("from 1 1=1", 7, 0);
        e.ruleFault("from 1 if 1=1 if 1=1", 14, 0);
        e.ruleFault("give", 4, 0);
        e.ruleFault("give 1", 6, 0);
        e.ruleFault("give 1=1 if 1=1", 9, 0);
        e.ruleFault("give if 1=1", 5, 0);
        e.ruleFault("if 1=1", 0, 0);
    }

    @Sentence(promise = 5, says = "TEST: PART { or PART }. PART: FACT { and FACT }. "
        + "FACT: not FACT | [ TEST ] (these brackets are signs)")
    static void whatATestNeeds(Edge e) {
        e.ruleFault("give []", 6, 0);
        e.ruleFault("give [1=1", 9, 0);
        e.ruleFault("give [1=1;", 9, 0);
        e.ruleFault("give [[1=1]", 11, 0);
        e.ruleFault("give 1=1]", 8, 0);
        e.ruleFault("give [1=1]]", 10, 0);
        e.ruleFault("give [1]=1", 7, 0);
        e.ruleFault("give [1=1]=1", 10, 0);
        e.ruleFault("give 1=1 and", 12, 0);
        e.ruleFault("give 1=1 or", 11, 0);
        e.ruleFault("give or 1=1", 5, 0);
        e.ruleFault("give 1=1 and or 1=1", 13, 0);
        e.ruleFault("give 1=1 1=1", 9, 0);
        e.ruleFault("give 1=1 not 1=1", 9, 0);
        e.ruleFault("give 1=1 [1=1]", 9, 0);
        e.ruleFault("give not", 8, 0);
        e.ruleFault("give not 1", 10, 0);
        e.ruleFault("give not and 1=1", 9, 0);
        e.ruleFault("from 1 if [1=1] from 1", 16, 0);
        e.rule("give [[1=1]]", 0);
        e.rule("give [ [ not [ 1=1 ] ] ] and 1=1", 0);
        e.rule("give not[not 1=1]", 0);
        e.rule("give[1=1]and[1=1]or[1=1]", 0);
    }

    @Sentence(promise = 5, says = "TEST: PART { or PART }. PART: FACT { and FACT }. "
        + "FACT: not FACT | [ TEST ] (these brackets are signs)")
    static void whatATestSays(Edge e) {
        fact(e, "1=1 and 1=1", true);
        fact(e, "1=1 and 1=2", false);
        fact(e, "1=2 and 1=1", false);
        fact(e, "1=1 or 1=2", true);
        fact(e, "1=2 or 1=1", true);
        fact(e, "1=2 or 1=2", false);
        fact(e, "1=1 or 1=1 and 1=2", true);
        fact(e, "1=2 and 1=1 or 1=1", true);
        fact(e, "1=2 and 1=2 or 1=1 and 1=1", true);
        fact(e, "1=2 or 1=2 or 1=1", true);
        fact(e, "[1=1 or 1=1] and 1=2", false);
        fact(e, "1=2 and [1=1 or 1=1]", false);
        fact(e, "not 1=1", false);
        fact(e, "not 1=2", true);
        fact(e, "not not 1=1", true);
        fact(e, "not 1=2 and 1=2", false);
        fact(e, "not 1=1 or 1=1", true);
        fact(e, "not [1=2 and 1=2]", true);
        fact(e, "not [not 1=1]", true);
        fact(e, "not [not 1=2]", false);
        fact(e, "not [not [not 1=1]]", false);
        fact(e, "not [1=2 or not 1=1] and not [not 1=1]", true);
        fact(e, "[not 1=1] or [not 1=2]", true);
    }

    @Sentence(promise = 5, says = "SUM SIGN SUM, SIGN one of < <= = >= >")
    static void signs(Edge e) {
        fact(e, "1<2", true);
        fact(e, "2<2", false);
        fact(e, "3<2", false);
        fact(e, "1<=2", true);
        fact(e, "2<=2", true);
        fact(e, "3<=2", false);
        fact(e, "1=2", false);
        fact(e, "2=2", true);
        fact(e, "3=2", false);
        fact(e, "1>=2", false);
        fact(e, "2>=2", true);
        fact(e, "3>=2", true);
        fact(e, "1>2", false);
        fact(e, "2>2", false);
        fact(e, "3>2", true);
        for (String holds : new String[] {"1<2", "1<=2", "2<=2", "2=2", "2>=2", "3>=2", "3>2"}) {
            fact(e, "not " + holds, false);
            fact(e, holds + " and 1=1", true);
        }
        for (String fails : new String[] {"2<2", "3<=2", "1=2", "1>=2", "2>2"}) {
            fact(e, "not " + fails, true);
            fact(e, fails + " or 1=1", true);
        }
        e.ruleFault("give 1==1", 7, 0);
        e.ruleFault("give 1=<1", 7, 0);
        e.ruleFault("give 1=>1", 7, 0);
        e.ruleFault("give 1<>1", 7, 0);
        e.ruleFault("give 1<==1", 8, 0);
        e.ruleFault("give 1< =1", 8, 0);
        e.ruleFault("give 1<", 7, 0);
        e.ruleFault("give 1<=", 8, 0);
        e.ruleFault("give <1", 5, 0);
        e.ruleFault("give 1=1=1", 8, 0);
        e.ruleFault("give 1!1", 6, 0);
    }

    @Sentence(promise = 5, says = "SUM: TERM { (+ or -) TERM }. TERM: VALUE { (* or / or %) VALUE }")
    static void whatASumNeeds(Edge e) {
        e.ruleFault("from -1", 5, 0);
        e.ruleFault("from +1", 5, 0);
        e.ruleFault("from *1", 5, 0);
        e.ruleFault("from 1+", 7, 0);
        e.ruleFault("from 1*", 7, 0);
        e.ruleFault("from 1+;", 7, 0);
        e.ruleFault("from 1+-1", 7, 0);
        e.ruleFault("from 1*/1", 7, 0);
        e.ruleFault("from 1 1", 7, 0);
        e.ruleFault("from [1]", 5, 0);
        e.ruleFault("from 1&1", 6, 0);
        e.ruleFault("from 1,1", 6, 0);
        e.ruleFault("from 1.1", 6, 0);
        fact(e, "9-4-3=2", true);
        fact(e, "9-4+3=8", true);
        fact(e, "9-2*3=3", true);
        fact(e, "9+6/3=11", true);
        fact(e, "9+7%3=10", true);
        fact(e, "8/4*2=4", true);
        fact(e, "8*4/3=10", true);
        fact(e, "7%4*2=6", true);
    }

    @Sentence(promise = 5, says = "VALUE: NUMBER (1 to 5 digits, as far as digits go on)")
    static void numbers(Edge e) {
        e.rule("from 0", 0);
        e.rule("from 99999", 0);
        e.rule("from 00000", 0);
        e.ruleFault("from 100000", 5, 1);
        e.ruleFault("from 000000", 5, 1);
        e.ruleFault("from 4294967297", 5, 1);
        e.ruleFault("from " + Check.times("1", 395, ""), 5, 1);
        e.ruleFault("from 1+ 123456", 8, 1);
        e.ruleFault("give 123456=1", 5, 1);
        e.ruleFault("give 1=123456", 7, 1);
        e.rule("from 1if1=1", 0);
        e.ruleFault("from 1a", 6, 0);
        fact(e, "00012=12", true);
        fact(e, "99999=3*33333", true);
    }

    @Sentence(promise = 5, says = "WORDS (small letters, as far as these go on)")
    static void words(Edge e) {
        for (String word : new String[] {"left", "order", "rest", "flaws", "width", "lot", "stripe", "bale", "day"}) {
            e.rule("from " + word, 0);
            e.rule("from " + word + "+" + word, 0);
            e.ruleFault("from " + word + "s", 5, 0);
            e.ruleFault("from " + word + "a", 5, 0);
            e.ruleFault("from " + word + "z", 5, 0);
            e.ruleFault("from " + word.substring(1), 5, 0);
            e.ruleFault("from " + word.substring(0, word.length() - 1), 5, 0);
            e.ruleFault("from " + word + "1", 5 + word.length(), 0);
            e.ruleFault("from " + word + "Z", 5 + word.length(), 0);
            e.ruleFault("from " + word + "`", 5 + word.length(), 0);
            e.ruleFault("from " + word + "{", 5 + word.length(), 0);
            e.ruleFault("from " + Character.toUpperCase(word.charAt(0)) + word.substring(1), 5, 0);
        }
        e.ruleFault("fromleft", 0, 0);
        e.ruleFault("from leftorder", 5, 0);
        e.ruleFault("from left order", 10, 0);
        e.ruleFault("from and", 5, 0);
        e.ruleFault("from from", 5, 0);
        e.ruleFault("from 1 iff 1=1", 7, 0);
        e.ruleFault("give nota=1", 5, 0);
        e.ruleFault("give 1=1 ands 1=1", 9, 0);
        e.ruleFault("give 1=1 orr 1=1", 9, 0);
        e.ruleFault("gives 1=1", 0, 0);
        e.ruleFault("fro 1", 0, 0);
    }

    /** Whether a FACT holds of the second BALE, the only one that has 7 EIGHTHS. */
    private static void fact(Edge e, String fact, boolean holds) {
        fact(e, "bale 4 1 0 0;bale 20 30 7 5;flaw 1 0;flaw 1 6;flaw 1 7;thumb 2", fact, holds);
    }

    private static void fact(Edge e, String shop, String fact, boolean holds) {
        ClothEnds x = Check.with(shop);
        e.due("rule of " + fact, Check.rule(x, "from 0 if " + fact), 0);
        e.due(fact + " of " + shop, x.serve(0, 7), holds ? 1 : -2);
    }

    @Sentence(promise = 5, says = "of a BALE and an ORDER of so many EIGHTHS: left (EIGHTHS it has), order")
    static void wordsOfABale(Edge e) {
        fact(e, "left=20 and order=7 and width=30 and lot=7 and stripe=5 and bale=1 and day=0", true);
        fact(e, "bale 4 1 0 0;bale 480 99 9 96;thumb 2", "left=480 and width=99 and lot=9 and stripe=96", true);
        fact(e, "bale 4 1 0 0;bale 7 1 0 0;thumb 2", "left=7 and width=1 and lot=0 and stripe=0", true);
    }

    @Sentence(promise = 5, says = "rest (what it would have behind the CUT)")
    static void rest(Edge e) {
        fact(e, "bale 4 1 0 0;bale 7 1 0 0;thumb 2", "rest=0", true);
        fact(e, "bale 4 1 0 0;bale 8 1 0 0;thumb 2", "rest=0", true);
        fact(e, "bale 4 1 0 0;bale 9 1 0 0;thumb 2", "rest=0", true);
        fact(e, "bale 4 1 0 0;bale 10 1 0 0;thumb 2", "rest=1", true);
        fact(e, "bale 4 1 0 0;bale 10 1 0 0", "rest=3", true);
        fact(e, "bale 4 1 0 0;bale 10 1 0 0;askew 2", "rest=3", true);
        fact(e, "bale 4 1 0 0;bale 10 1 0 0;thumb 2;board 80", "rest=1", true);
    }

    @Sentence(promise = 5, says = "flaws (FLAWS in the EIGHTHS that are sold)")
    static void flaws(Edge e) {
        // in EIGHTHS 0, 6 and 7, of which 7 are sold
        fact(e, "flaws=2", true);
        fact(e, "bale 4 1 0 0;bale 20 30 7 5", "flaws=0", true);
        fact(e, "bale 9 1 0 0;bale 20 30 7 5;flaw 0 1", "bale=1 and flaws=0", true);
        fact(e, "bale 4 1 0 0;bale 20 30 7 5;flaw 1 7", "flaws=0", true);
        fact(e, "bale 4 1 0 0;bale 20 30 7 5;" + Check.times("flaw 1 6", 16, ";"), "flaws=16", true);
    }

    @Sentence(promise = 5, says = "/ is towards 0, % its rest")
    static void towardsNothing(Edge e) {
        fact(e, "7/2=3 and 7%2=1", true);
        fact(e, "6/7=0 and 6%7=6", true);
        // a VALUE below 0 can't be told: the least number of 64 bits stands for one
        String least = "65536*65536*65536*32768";
        fact(e, least + "/65536/65536/65536/10=0-3276", true);
        fact(e, least + "/65536/65536/65536%10=0-8", true);
        fact(e, least + "%10=0-8", true);
        fact(e, least + "/65536/65536/65536/40000=0", true);
    }

    @Sentence(promise = 5, says = "both 0 by 0")
    static void byNothing(Edge e) {
        fact(e, "5/0=0", true);
        fact(e, "5%0=0", true);
        fact(e, "0/0=0", true);
        fact(e, "0%0=0", true);
        fact(e, "5/0+7=7", true);
        fact(e, "5/lot*0=0 and left/day=0 and left%day=0", true);
        ClothEnds x = Check.with("bale 9 1 0 0;bale 9 2 0 0");
        Check.rule(x, "from 9/lot-width%day-width");
        e.due("a SUM by 0", x.serve(0, 3), 1);
        e.due("a row by 0", x.days(0, 2, 3, 3, 3), 0);
    }

    @Sentence(promise = 5, says = "all goes round in 64 bits")
    static void round(Edge e) {
        String least = "65536*65536*65536*32768";
        fact(e, least + "<0", true);
        fact(e, least + "-1>0", true);
        fact(e, "0-" + least + "<0", true);
        fact(e, "0-" + least + "=" + least, true);
        fact(e, least + "+" + least + "=0", true);
        fact(e, least + "*2=0", true);
        fact(e, "65536*32768>0", true);
        fact(e, "65536*65536=0", false);
        fact(e, "99999*99999=99999*99999+0 and 99999*99999>99999", true);
        ClothEnds x = Check.with("bale 9 1 0 0;bale 9 2 0 0;bale 9 3 0 0");
        Check.rule(x, "from 0-width;from 0");
        Check.rule(x, "from " + least + "-1 if width=1;from " + least + " if width=2;from 0 if width=3");
        Check.rule(x, "from 65536*65536 if width=1;from 1 if width=2;from 65536*32768 if width=3");
        e.due("a SUM below 0", x.serve(0, 1), 2);
        e.due("the least SUM of all", x.serve(1, 1), 1);
        e.due("SUMS of more than 32 bits", x.serve(2, 1), 1);
    }

    @Sentence(promise = 5, says = "Blanks (32) stand between as one likes.")
    static void blanks(Edge e) {
        e.rule("from 1if[1<=2]and not 1=2;give 1=1", 0);
        e.rule("  from  1  +  2  *  3  if  [  1  <=  2  ]  and  not  1  =  2  ;  give  1  =  1  ", 0);
        e.ruleFault("fr om 1", 0, 0);
        e.ruleFault("from 1 2", 7, 0);
        e.ruleFault("from" + (char) 9 + "1", 4, 0);
        e.ruleFault("from 1" + (char) 10, 6, 0);
        e.ruleFault("from 1" + (char) 0, 6, 0);
        e.ruleFault("from 1" + (char) 160, 6, 0);
        e.ruleFault("give 1=1" + (char) 31, 8, 0);
        e.ruleFault("give 1=1" + (char) 33, 8, 0);
        e.shop("  bale  9  1  0  0  ;  thumb  1  ", 1);
        e.shop("bale9 1 0 0;thumb1", 1);
        e.shopFault("bale 9 1 0 0" + (char) 9 + ";thumb 1", 12, 0);
    }

    // ---- how much there can be

    private static String open(int n) {
        return Check.times("[", n, "");
    }

    private static String close(int n) {
        return Check.times("]", n, "");
    }

    @Sentence(promise = 5, says = "[ and not lie within one another 10 deep at most")
    static void tenDeep(Edge e) {
        e.rule("give " + open(10) + "1=1" + close(10), 0);
        e.ruleFault("give " + open(11) + "1=1" + close(11), 15, 2);
        e.rule("give " + Check.times("not", 10, " ") + " 1=1", 0);
        e.ruleFault("give " + Check.times("not", 11, " ") + " 1=1", 45, 2);
        e.rule("give " + Check.times("not[", 5, "") + "1=1" + close(5), 0);
        e.ruleFault("give " + Check.times("not[", 5, "") + "[1=1]" + close(5), 25, 2);
        e.ruleFault("give " + Check.times("not[", 5, "") + "not 1=1" + close(5), 25, 2);
        e.rule("from 1 if " + open(10) + "1=1" + close(10) + ";give " + open(10) + "1=1" + close(10), 0);
    }

    @Sentence(promise = 5, says = "[ and not lie within one another 10 deep at most")
    static void oneBehindAnotherIsNotWithin(Edge e) {
        e.rule("give " + open(9) + "[1=1]and[1=1]or[1=1]" + close(9), 0);
        e.rule("give " + open(9) + "not 1=1 and not 1=1 or not 1=1" + close(9), 0);
        e.rule("give " + open(10) + "1=1" + close(10) + "and " + open(10) + "1=1" + close(10), 0);
        e.rule("give " + Check.times("not", 10, " ") + " 1=1 or " + Check.times("not", 10, " ") + " 1=1", 0);
        e.rule("give " + Check.times("not [1=1]", 14, "and "), 0);
        e.ruleFault("give " + open(10) + "1=1 and not 1=1", 23, 2);
        e.ruleFault("give " + open(9) + "[1=1]or[not 1=1", 22, 2);
        e.ruleFault("give " + open(9) + "not 1=1 and not not 1=1", 30, 2);
    }

    @Sentence(promise = 5, says = "[ and not lie within one another 10 deep at most")
    static void whatLiesTenDeepHolds(Edge e) {
        fact(e, open(10) + "1=1" + close(10), true);
        fact(e, open(10) + "1=2" + close(10), false);
        fact(e, Check.times("not", 10, " ") + " 1=1", true);
        fact(e, Check.times("not", 9, " ") + " 1=1", false);
        fact(e, Check.times("not [", 5, "") + "1=1" + close(5), false);
        // nine times an or and an and wait for what lies within
        fact(e, Check.times("1=2 or 1=1 and[", 9, "") + "[1+2*3=7" + close(10), true);
        fact(e, Check.times("1=2 or 1=1 and[", 9, "") + "[1+2*3=9" + close(10), false);
    }

    @Sentence(promise = 5, says = "at most 60 VALUES and FACTS made of a SIGN, together")
    static void sixtyTogether(Edge e) {
        e.rule("from " + Check.times("1", 60, "+"), 0);
        e.ruleFault("from " + Check.times("1", 61, "+"), 125, 3);
        e.rule("from " + Check.times("left", 60, "*"), 0);
        e.ruleFault("from " + Check.times("left", 61, "*"), 305, 3);
        e.rule("give " + Check.times("1=1", 20, "or "), 0);
        e.ruleFault("give " + Check.times("1=1", 21, "or "), 125, 3);
        e.rule("give " + Check.times("1", 58, "+") + "=1", 0);
        e.ruleFault("give " + Check.times("1", 59, "+") + "=1", 123, 3);
        e.rule("from " + Check.times("1", 57, "+") + ";give 1=1", 0);
        e.ruleFault("from " + Check.times("1", 58, "+") + ";give 1=1", 128, 3);
        e.ruleFault("from " + Check.times("1", 59, "+") + ";give 1=1", 129, 3);
        // brackets, not, and, or are none of them
        e.rule("give " + Check.times("not[1=1]", 20, "and "), 0);
        ClothEnds x = Check.with("bale 9 1 0 0;bale 9 2 0 0");
        e.due("rule", Check.rule(x, "from " + Check.times("1", 59, "+") + "-width"), 0);
        e.due("the sixtieth is reckoned with", x.serve(0, 2), 1);
    }

    // ---- FAULTS

    @Sentence(promise = 5, says = "FAULTS 0, 1 likewise")
    static void faultsLikewise(Edge e) {
        e.ruleFault("?", 0, 0);
        e.ruleFault("fromm 1", 0, 0);
        e.ruleFault("bale 1 1 0 0", 0, 0);
        e.ruleFault("5", 0, 0);
        e.ruleFault("  ", 2, 0);
        e.ruleFault("from  ", 6, 0);
        e.ruleFault("from 1; ", 8, 0);
        e.ruleFault("from 100000;?", 5, 1);
        e.ruleFault("from ?;from 100000", 5, 0);
        e.ruleFault("from 1?", 6, 0);
        e.ruleFault("from left?", 9, 0);
        e.ruleFault("give 1=1?", 8, 0);
    }

    @Sentence(promise = 5, says = "2 too deep (at the sign that opens, or the word not)")
    static void tooDeep(Edge e) {
        e.ruleFault("give " + open(11), 15, 2);
        e.ruleFault("give " + open(10) + "   [1=1", 18, 2);
        e.ruleFault("give " + open(10) + "   not 1=1", 18, 2);
        e.ruleFault("give " + open(10) + "not", 15, 2);
        e.ruleFault("give " + open(12), 15, 2);
        e.ruleFault("give " + open(10) + "nots", 15, 0);
        e.ruleFault("give " + open(10), 15, 0);
        e.ruleFault("give 1=1?" + open(11), 8, 0);
        e.ruleFault("from 1 if " + open(11), 20, 2);
    }

    @Sentence(promise = 5, says = "3 one VALUE or FACT too many (at its first byte; of a FACT at its SIGN)")
    static void oneTooMany(Edge e) {
        String sixty = "from " + Check.times("1", 60, "+");
        e.ruleFault(sixty + "+ 7", 126, 3);
        e.ruleFault(sixty + "+ width", 126, 3);
        e.ruleFault(sixty + ";from 7", 130, 3);
        e.ruleFault(sixty + " if 7=7", 128, 3);
        e.ruleFault(sixty + " if [not 7=7]", 133, 3);
        e.ruleFault("give " + Check.times("1", 60, "+") + " <= 1", 125, 3);
        e.ruleFault("give " + Check.times("1", 58, "+") + "+1 >= 1", 126, 3);
        e.rule(sixty, 0);
        e.rule(sixty + " ", 0);
    }

    @Sentence(promise = 5, says = "4 a thirteenth CLAUSE (at its first byte)")
    static void aThirteenthClause(Edge e) {
        String twelve = Check.times("from 1", 12, ";");
        e.ruleFault(twelve + ";from 1", 84, 4);
        e.ruleFault(twelve + ";give 1=1", 84, 4);
        e.ruleFault(twelve + "  ;  give", 88, 4);
        e.ruleFault(twelve + ";from 123456", 84, 4);
        e.ruleFault(Check.times("give 1=1", 13, ";"), 108, 4);
    }

    @Sentence(promise = 5, says = "Of one place the least.")
    static void ofOnePlaceTheLeast(Edge e) {
        String sixty = "from " + Check.times("1", 60, "+");
        e.ruleFault(sixty + "+", 125, 0);
        e.ruleFault(sixty + "+?", 125, 0);
        e.ruleFault(sixty + "+weight", 125, 0);
        e.ruleFault(sixty + "+123456", 125, 1);
        e.ruleFault(sixty + "+12345", 125, 3);
        e.ruleFault("give " + Check.times("1", 60, "+") + "?", 124, 0);
        e.ruleFault("give " + Check.times("1", 60, "+"), 124, 0);
        String twelve = Check.times("from 1", 12, ";");
        e.ruleFault(twelve + ";", 84, 0);
        e.ruleFault(twelve + ";form 1", 84, 0);
        e.ruleFault(twelve + ";;", 84, 0);
        e.ruleFault(twelve + ";1", 84, 0);
    }
}
