/** Promises 23 to 25: made, madeOf, line. */
public final class MadeTest {
    private static final Check check = new Check("MadeTest");

    public static void main(String[] args) {
        alone();
        firstForm();
        basket();
        pairs();
        line();
        check.done();
    }

    private static void alone() {
        ClothEnds x = Check.with("bale 1 1 0 0;form 2 36 5;form 3 54 9;form 7 20 20");
        check.due("two and three", x.madeOf(5, 54, 0), 14);
        check.due("twice three", x.madeOf(6, 54, 0), 18);
        check.due("as often as one likes", x.madeOf(80, 54, 0), 26 * 9 + 5);
        check.due("not wider", x.madeOf(7, 53, 0), 20);
        check.due("not wider", x.madeOf(7, 36, 0), 20);
        check.due("not wider", x.madeOf(8, 36, 0), 20);
        check.due("not wider", x.madeOf(9, 36, 0), 25);
        check.due("not wider", x.madeOf(9, 35, 0), 20);
        check.due("none", x.madeOf(6, 35, 0), 0);
        check.due("none", x.madeOf(80, 19, 0), 0);
        int[][] wrong = {{0, 1, 0}, {81, 1, 0}, {1, 0, 0}, {1, 100, 0}, {1, 1, 2}, {1, 1, -1}, {-1, 1, 1}};
        for (int[] w : wrong) {
            check.due("madeOf", x.madeOf(w[0], w[1], w[2]), -1);
        }
        check.due("madeOf(1, 1, 0)", new ClothEnds().madeOf(1, 1, 0), 0);
        check.due("madeOf(80, 99, 1)", new ClothEnds().madeOf(80, 99, 1), -2);
    }

    private static void firstForm() {
        ClothEnds x = Check.with("bale 1 1 0 0;form 2 36 5;form 3 54 9;form 1 60 0;form 6 1 18");
        check.due("14: two, then three", x.madeOf(5, 54, 1), 0);
        check.due("18", x.madeOf(6, 54, 1), 1);
        check.due("19: twice two, then three", x.madeOf(7, 60, 1), 0);
        check.due("none can be", x.madeOf(1, 54, 1), -2);
        check.due("a worthless one", x.madeOf(1, 60, 1), 2);
        check.due("by width", x.madeOf(6, 35, 1), 3);
        check.due("by length", x.madeOf(5, 35, 1), -2);
        ClothEnds y = Check.with("bale 1 1 0 0;form 1 1 0;form 5 1 10");
        check.due("10 of 6, a worthless one first", y.madeOf(6, 1, 1), 0);
        check.due("10 of 5", y.madeOf(5, 1, 1), 1);
    }

    private static ClothEnds basket(String shop) {
        ClothEnds x = Check.with(shop + ";board 80");
        for (int i = 0; i < x.count(0); i++) {
            x.basket(i);
        }
        return x;
    }

    private static void basket() {
        check.due("empty", Check.with("bale 9 9 9 9;form 1 1 1").made(), 0);
        check.due("by each width", basket("bale 7 36 0 0;bale 6 54 0 0;bale 9 9 0 0;form 2 36 5;form 3 54 9").made(),
            15 + 18);
        ClothEnds x = basket("bale 7 36 0 0;bale 6 54 0 0;form 2 36 5;form 3 54 9");
        x.out(1);
        check.due("without one", x.made(), 15);
        check.due("only the BASKET", x.count(7), 0);
    }

    private static void pairs() {
        String two = "bale 5 1 3 0;bale 6 1 3 0;form 1 1 2";
        check.due("a PAIR", basket(two + ";pair 5 23").made(), 23);
        check.due("a PAIR from length 1", basket("bale 1 1 3 0;bale 1 1 3 0;pair 1 23").made(), 23);
        check.due("no PAIR", basket(two + ";pair 5 21").made(), 22);
        check.due("too short", basket(two + ";pair 6 99").made(), 22);
        check.due("of one lot", basket("bale 5 1 3 0;bale 6 1 2 0;form 1 1 2;pair 1 99").made(), 22);
        check.due("without FORMS", basket("bale 5 1 3 0;bale 6 99 3 0;pair 5 7").made(), 7);
        check.due("one alone", basket("bale 5 1 3 0;pair 1 7").made(), 0);
        check.due("the least alone are paired",
            basket("bale 9 1 3 0;bale 6 1 3 0;bale 5 1 3 0;form 1 1 2;pair 5 99").made(), 18 + 99);
        check.due("two PAIRS",
            basket("bale 9 1 3 0;bale 6 1 3 0;bale 5 1 3 0;bale 5 1 3 0;form 1 1 2;pair 5 31").made(), 62);
        check.due("one PAIR of four",
            basket("bale 9 1 3 0;bale 6 1 3 0;bale 5 1 3 0;bale 5 1 3 0;form 1 1 2;pair 5 29").made(), 30 + 29);
        check.due("two lots",
            basket("bale 5 1 0 0;bale 5 1 9 0;bale 5 1 9 0;bale 5 1 0 0;form 1 1 2;pair 5 30").made(), 60);
        check.due("a short one stays",
            basket("bale 9 1 3 0;bale 2 1 3 0;bale 5 1 3 0;form 1 1 2;pair 5 99").made(), 4 + 99);
        check.due("five PAIRS", basket(Check.times("bale 5 1 1 0", 10, ";") + ";pair 5 999").made(), 5 * 999);
    }

    private static void line() {
        ClothEnds x = Check.with("bale 1 1 0 0;form 2 36 5;form 3 54 9");
        check.due("line(54, 10, 100)", x.line(54, 10, 100), 4);
        check.due("line(54, 14, 100)", x.line(54, 14, 100), 5);
        check.due("line(54, 13, 100)", x.line(54, 13, 100), 4);
        check.due("line(54, 10, 50)", x.line(54, 10, 50), 2);
        check.due("line(54, 10, 49)", x.line(54, 10, 49), 1);
        check.due("line(54, 0, 100)", x.line(54, 0, 100), 1);
        check.due("line(54, 9999, 0)", x.line(54, 9999, 0), 1);
        check.due("line(54, 9999, 100)", x.line(54, 9999, 100), 80);
        check.due("line(54, 239, 100)", x.line(54, 239, 100), 80);
        check.due("line(54, 238, 100)", x.line(54, 238, 100), 79);
        check.due("none are WORTH anything", x.line(35, 0, 0), 80);
        check.due("length 0", Check.with("bale 1 1 0 0;form 1 1 1").line(1, 0, 0), 0);
        int[][] wrong = {{0, 1, 1}, {100, 1, 1}, {1, -1, 1}, {1, 10000, 1}, {1, 1, -1}, {1, 1, 101}};
        for (int[] w : wrong) {
            check.due("line", x.line(w[0], w[1], w[2]), -1);
        }
        check.due("STATUS", x.status(0), 0);
    }
}
