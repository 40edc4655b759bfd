/** Promise 5: rule, and the language of RULES; what a RULE reckons is seen by which BALE it takes. */
public final class RuleTest {
    private static final Check check = new Check("RuleTest");

    public static void main(String[] args) {
        accepted();
        faults();
        deep();
        many();
        sixRules();
        oneBehindAnother();
        twelveClauses();
        values();
        facts();
        wide();
        check.done();
    }

    private static void rule(String text, int want) {
        check.due("rule of '" + text + "'", Check.rule(new ClothEnds(), text), want);
    }

    private static void refused(String text, int place, int kind) {
        rule(text, Check.fault(place, kind));
    }

    private static void accepted() {
        rule("from 1", 0);
        rule("give 1=1", 0);
        rule("from left+order-rest*flaws/width%lot+stripe+bale+day+00000", 0);
        rule(" from left if order<1 and not[rest<=2 or flaws=3]or width>=4;give lot>5 ", 0);
        rule("from 1if1<2or1>2and1=2;give not[1=1]", 0);
        rule("from 99999", 0);
        rule(Check.times("from 1", 12, ";"), 0);
        rule("give " + Check.times("[", 10, "") + "1=1" + Check.times("]", 10, ""), 0);
        rule("give " + Check.times("not", 10, " ") + " 1=1", 0);
        rule("give not[not[not[not[not[1=1]]]]]", 0);
        rule("give " + Check.times("[not 1=1]", 20, "and"), 0);
        rule("from " + Check.times("1", 60, "+"), 0);
        rule("give " + Check.times("1=1", 20, " or "), 0);
        rule("from 1 + 2 * left - order", 0);
        rule("give [ 1 = 1 ] and not [ [ 1 = 1 ] ] ", 0);
    }

    private static void faults() {
        refused("", 0, 0);
        refused("  ", 2, 0);
        refused("from", 4, 0);
        refused("from  ", 6, 0);
        refused("give", 4, 0);
        refused("form 1", 0, 0);
        refused("from 1;", 7, 0);
        refused("from 1;;", 7, 0);
        refused("from 1;from 1 ; ", 16, 0);
        refused("from z", 5, 0);
        refused("from lefts", 5, 0);
        refused("from leftorder", 5, 0);
        refused("from Left", 5, 0);
        refused("from leftz", 5, 0);
        refused("from lefta", 5, 0);
        refused("from z1", 5, 0);
        refused("from left order", 10, 0);
        refused("from 1 2", 7, 0);
        refused("from 1left", 6, 0);
        refused("from -1", 5, 0);
        refused("from 1+", 7, 0);
        refused("from 1+*2", 7, 0);
        refused("from 1 = 1", 7, 0);
        refused("from 1 and 1", 7, 0);
        refused("from not 1", 5, 0);
        refused("from [1]", 5, 0);
        refused("from 1 if", 9, 0);
        refused("from 1 if 1", 11, 0);
        refused("from 1 iff 1=1", 7, 0);
        refused("from 1 if 1=1 if 1=1", 14, 0);
        refused("from 1 give 1=1", 7, 0);
        refused("give 1", 6, 0);
        refused("give 1;", 6, 0);
        refused("give 1==1", 7, 0);
        refused("give 1=<1", 7, 0);
        refused("give 1< =1", 8, 0);
        refused("give 1<>1", 7, 0);
        refused("give 1=1=1", 8, 0);
        refused("give 1=1]", 8, 0);
        refused("give [1=1", 9, 0);
        refused("give [1=1;", 9, 0);
        refused("give [1]=1", 7, 0);
        refused("give []", 6, 0);
        refused("give 1=1 and", 12, 0);
        refused("give 1=1 or or 1=1", 12, 0);
        refused("give 1=1 [1=1]", 9, 0);
        refused("give 1=1 not 1=1", 9, 0);
        refused("give 1=1 if 1=1", 9, 0);
        refused("give and 1=1", 5, 0);
        refused("give nota=1", 5, 0);
        refused("give [1=1]+1=1", 10, 0);
        refused("from 100000", 5, 1);
        refused("from 000001", 5, 1);
        refused("from 1+ 123456", 8, 1);
        refused("from 1" + (char) 0, 6, 0);
        refused("from 1 if 1=1" + (char) 255, 13, 0);
        refused("bale 1 1 1 1", 0, 0);
    }

    private static void deep() {
        refused("give " + Check.times("[", 11, "") + "1=1", 15, 2);
        refused("give " + Check.times("not", 11, " ") + " 1=1", 45, 2);
        refused("give " + Check.times("not[", 5, "") + "[1=1", 25, 2);
        refused("give " + Check.times("not[", 5, "") + "not 1=1", 25, 2);
        refused("give " + Check.times("[", 10, "") + "1=1 and not 1=1", 23, 2);
        rule("give " + Check.times("[", 9, "") + "1=1]or[1=1 and not not 1=1"
            + Check.times("]", 9, ""), Check.fault(33, 2));
        rule("give " + Check.times("[", 9, "") + "not 1=1]and[not 1=1" + Check.times("]", 9, ""), 0);
        rule("give not not not 1=1 and not not not not not not not not not not 1=1", 0);
        rule("from 1 if [[[[[[[[[[1=1]]]]]]]]]];give [[[[[[[[[[1=1]]]]]]]]]]", 0);
    }

    private static void many() {
        refused("from " + Check.times("1", 61, "+"), 125, 3);
        refused("from " + Check.times("1", 60, "+") + "+", 125, 0);
        refused("from " + Check.times("1", 60, "+") + "+z", 125, 0);
        refused("from " + Check.times("1", 60, "+") + "+123456", 125, 1);
        refused("give " + Check.times("1", 60, "+") + "<=1", 124, 3);
        refused("give " + Check.times("1", 59, "+") + " < 1", 125, 3);
        refused("give " + Check.times("1", 59, "+") + " < ", 125, 0);
        rule("give " + Check.times("1", 58, "+") + " < 1", 0);
        refused("give " + Check.times("1=1", 20, "or") + "or 1=1", 106, 3);
        refused("from " + Check.times("1", 60, "+") + ";from 1", 130, 3);
        refused("from " + Check.times("1", 57, "+") + ";give 1=1;from 1", 133, 3);
        refused(Check.times("from 1", 13, ";"), 84, 4);
        refused(Check.times("from 1", 12, ";") + " ; give", 86, 4);
        refused(Check.times("from 1", 12, ";") + ";form", 84, 0);
        refused(Check.times("from 1", 12, ";") + ";", 84, 0);
    }

    private static void sixRules() {
        ClothEnds x = new ClothEnds();
        for (int i = 0; i < 6; i++) {
            check.due("a fault between", Check.rule(x, "from"), Check.fault(4, 0));
            check.due("the TAPE", x.count(10), 0);
            check.due("rule", Check.rule(x, "from " + i), i);
            check.due("the TAPE", x.count(10), 0);
            check.due("count(1)", x.count(1), i + 1);
        }
        check.due("a seventh", Check.rule(x, "from 6"), -1);
        check.due("nothing happens", x.count(10), 6);
        check.due("a seventh with a fault", Check.rule(x, "from"), -1);
        check.due("nothing happens", x.count(10), 4);
        check.due("count(1)", x.count(1), 6);
        check.due("STATUS", x.status(0) + x.status(1) + x.status(2), 0);
    }

    /** What a text told is no part of the next one. */
    private static void oneBehindAnother() {
        ClothEnds x = Check.with("bale 9 1 0 0;bale 9 2 0 0;board 9");
        for (int i = 0; i < 3; i++) {
            check.due("60 of 60", Check.rule(x, "from " + Check.times("1", 61, "+")), Check.fault(125, 3));
            check.due("10 deep", Check.rule(x, "give [[[[[[[[[[1=1 and [1=1"), Check.fault(23, 2));
            check.due("a [ stays", Check.rule(x, "give [1=1"), Check.fault(9, 0));
            check.due("a ]", Check.rule(x, "give 1=1]"), Check.fault(8, 0));
            check.due("or and not wait", Check.rule(x, "give 1=2 or 1=2 and not z"), Check.fault(24, 0));
            check.due("from 1; from", Check.rule(x, "from 1;give 1=1;from"), Check.fault(20, 0));
        }
        check.due("a not waits", Check.rule(x, "give not z"), Check.fault(9, 0));
        check.due("rule", Check.rule(x, "from 0-width if left=9"), 0);
        check.due("rule", Check.rule(x, "from " + Check.times("1", 60, "+")), 1);
        check.due("its first CLAUSE is its own", x.serve(0, 2), 1);
        check.due("nothing is GIVEN", x.count(4), 0);
        check.due("its first CLAUSE is its own", x.serve(1, 2), 0);
        check.due("nothing is GIVEN", x.count(4), 0);
    }

    private static void twelveClauses() {
        ClothEnds x = Check.with("bale 9 1 0 0;bale 9 2 0 0;board 9");
        check.due("rule", Check.rule(x, Check.times("from 0 if 1=2;", 11, "") + "from 0-width"), 0);
        check.due("the twelfth CLAUSE", x.serve(0, 2), 1);
        check.due("rule", Check.rule(x, "from 0;" + Check.times("give 1=2;", 10, "") + "give 1=1"), 1);
        check.due("serve", x.serve(1, 2), 0);
        check.due("the twelfth CLAUSE", x.count(4), 7);
        check.due("rule", Check.rule(x, "give 1=1;" + Check.times("give 1=2;", 10, "") + "from 1"), 2);
        check.due("serve", x.serve(2, 2), 1);
        check.due("the first CLAUSE", x.count(4), 12);
    }

    /** Whether SUM is one value: by the RULE the second BALE is taken only then. */
    private static void is(String sum, String value) {
        isFact(sum + "=" + value, true);
        isFact(sum + "<" + value, false);
        isFact(sum + ">" + value, false);
    }

    private static void isFact(String fact, boolean holds) {
        ClothEnds x = Check.with("bale 4 1 0 0;bale 20 30 7 5;flaw 1 0;flaw 1 2;flaw 1 6;flaw 1 7;thumb 2");
        check.due("rule of " + fact, Check.rule(x, "from 0 if " + fact), 0);
        check.due(fact, x.serve(0, 7), holds ? 1 : -2);
    }

    private static void values() {
        is("left", "20");
        is("order", "7");
        is("rest", "11");
        is("flaws", "3");
        is("width", "30");
        is("lot", "7");
        is("stripe", "5");
        is("bale", "1");
        is("day", "0");
        is("2+3*4", "14");
        is("2*3+4", "10");
        is("20-3-4", "13");
        is("20-3*4%5+1", "19");
        is("100/7/3", "4");
        is("100%7*3", "6");
        is("100/7*3", "42");
        is("7-9", "0-2");
    }

    private static void facts() {
        isFact("0-3<0", true);
        isFact("1=1 or 1=1 and 1=2", true);
        isFact("[1=1 or 1=1] and 1=2", false);
        isFact("1=2 and 1=1 or 1=1", true);
        isFact("1=2 and [1=1 or 1=1]", false);
        isFact("not 1=2 and 1=1", true);
        isFact("not 1=2 and 1=2", false);
        isFact("not 1=1 or 1=1", true);
        isFact("not [1=1 or 1=1]", false);
        isFact("not not 1=1", true);
        isFact("not not not 1=1", false);
        isFact("not [not [1=1 and 1=2] and 1=2]", true);
        isFact("1<=1 and 1>=1 and not 1<1 and not 1>1", true);
        isFact("1<=2 and 2>=1 and 1<2 and 2>1", true);
        isFact("2<=1 or 1>=2 or 2<1 or 1>2", false);
        isFact("1+1=4/2", true);
    }

    /** / is towards 0, by 0 it is 0, and all goes round in 64 bits. */
    private static void wide() {
        isFact("5/0=0 and 5%0=0 and 0/0=0", true);
        // the least number of 64 bits: a VALUE below 0 can't be told
        String big = "65536*65536*65536*32768";
        isFact(big + ">0", false);
        isFact(big + "-1>0", true);
        isFact(big + "*2=0", true);
        isFact(big + "/3*3<" + big, false);
        isFact(big + "/3*3>" + big, true);
        isFact(big + "%3=0-2", true);
        isFact(big + "/65536/65536/65536=0-32768", true);
        isFact(big + "/60000/60000/60000+42700=0-0", true);
        isFact(big + "%10=0-8", true);
    }
}
