/** Promises 12 to 14: a test for each sentence that names a boundary case. */
public final class ServeEdgeTest {
    public static void main(String[] args) throws IllegalAccessException {
        Edge.run(ServeEdgeTest.class);
    }

    private static final int MIN = Integer.MIN_VALUE;
    private static final int MAX = Integer.MAX_VALUE;

    private static ClothEnds ruled(String shop, String rule) {
        ClothEnds x = Check.with(shop);
        if (Check.rule(x, rule) != 0) {
            throw new IllegalArgumentException("no RULE: " + rule);
        }
        return x;
    }

    /** What x becomes by some DRAWS. */
    private static long drawn(long x, int draws) {
        for (int i = 0; i < draws; i++) {
            x = (x * 1103515245L + 12345L) % 2147483648L;
        }
        return x;
    }

    // ---- promise 12: serve

    @Sentence(promise = 12, says = "SERVED: the BALE; -2: it is REFUSED (STATUS 1)")
    static void refusedOrders(Edge e) {
        ClothEnds x = ruled("bale 9 1 0 0;bale 480 1 0 0", "from left");
        e.due("serve(0, 480)", x.serve(0, 480), 1);
        e.due("REFUSED", x.count(5), 0);
        e.due("serve(0, 480)", x.serve(0, 480), -2);
        e.dueStatus(x, 0, 1, 0);
        e.due("REFUSED", x.count(5), 1);
        e.due("serve(0, 10)", x.serve(0, 10), -2);
        e.dueStatus(x, 0, 2, 0);
        e.due("REFUSED", x.count(5), 2);
        e.due("left", x.count(7), 9);
        e.due("SOLD", x.count(2), 480);
        e.due("serve(0, 9)", x.serve(0, 9), 0);
        e.due("REFUSED", x.count(5), 2);
        ClothEnds y = new ClothEnds();
        Check.rule(y, "from 0");
        e.due("without a SHOP", y.serve(0, 1), -2);
        e.due("REFUSED", y.count(5), 1);
        e.dueStatus(y, 0, 1, 0);
    }

    @Sentence(promise = 12, says = "or without that RULE, or n is not 1 to 480 (STATUS 0, and it is not REFUSED)")
    static void withoutRuleOrOrder(Edge e) {
        for (int rule : new int[] {-1, 1, 5, 6, MIN, MAX}) {
            e.refuses(Edge::rich, "serve(" + rule + ", 1)", x -> x.serve(rule, 1), 0);
        }
        for (int n : new int[] {0, -1, 481, MIN, MAX}) {
            e.refuses(Edge::rich, "serve(0, " + n + ")", x -> x.serve(0, n), 0);
        }
        e.refuses(Edge::rich, "serve(1, 480)", x -> x.serve(1, 480), 0);
        e.refuses(() -> Check.with("bale 9 1 0 0"), "serve without RULES", x -> x.serve(0, 1), 0);
        ClothEnds x = ruled("bale 480 1 0 0", "from 0");
        e.due("serve(0, 1)", x.serve(0, 1), 0);
        for (int i = 1; i < 6; i++) {
            Check.rule(x, "from 0");
        }
        e.due("serve(5, 1)", x.serve(5, 1), 0);
        e.due("serve(6, 1)", x.serve(6, 1), -2);
        e.due("REFUSED", x.count(5), 0);
    }

    @Sentence(promise = 12, says = "of BALES that have as many EIGHTHS as the ORDER")
    static void asManyAsTheOrder(Edge e) {
        ClothEnds x = ruled("bale 4 1 0 0;bale 5 2 0 0;bale 6 3 0 0;thumb 8", "from left");
        e.due("5 of 5", x.serve(0, 5), 1);
        e.due("5 of 6", x.serve(0, 5), 2);
        e.due("5 of 4", x.serve(0, 5), -2);
        e.due("4 of 4", x.serve(0, 4), 0);
        e.due("1 of none", x.serve(0, 1), -2);
        e.due("SOLD", x.count(2), 14);
        e.due("LOST", x.count(3), 1);
        e.due("REFUSED", x.count(5), 2);
    }

    @Sentence(promise = 12, says = "each with the first from CLAUSE without a TEST, or whose TEST holds "
        + "(without one it is not taken)")
    static void theFirstClause(Edge e) {
        String shop = "bale 9 1 0 0;bale 9 2 0 0;bale 9 3 0 0";
        ClothEnds x = ruled(shop, "give 1=1;from 5 if width=1;from 7 if width=2;from 1 if width=2;from 6");
        e.due("the first that holds", x.serve(0, 9), 0);
        e.due("without a TEST", x.serve(0, 9), 2);
        e.due("not the second that holds", x.serve(0, 9), 1);
        e.due("all are cut", x.serve(0, 9), -2);
        ClothEnds y = ruled(shop, "from 0 if width=2");
        e.due("whose TEST holds", y.serve(0, 9), 1);
        e.due("the others are not taken", y.serve(0, 9), -2);
        e.due("REFUSED", y.count(5), 1);
        ClothEnds z = ruled(shop, "give 1=1");
        e.due("no from CLAUSE", z.serve(0, 1), -2);
        e.due("left", z.count(7), 27);
        ClothEnds v = ruled(shop, "from 3;from 0 if width=2");
        e.due("one without a TEST ahead", v.serve(0, 9), 0);
        ClothEnds w = ruled(shop, "from 0 if 1=2");
        e.due("a TEST that never holds", w.serve(0, 1), -2);
        ClothEnds u = ruled(shop, Check.times("from 0 if 1=2", 12, ";"));
        e.due("twelve TESTS that never hold", u.serve(0, 1), -2);
        ClothEnds t = Check.with(shop);
        Check.rule(t, "from 0;from 0;from 0;from");
        Check.rule(t, "from 0 if 1=2");
        e.due("a text with a FAULT is no part of the next one", t.serve(0, 1), -2);
    }

    @Sentence(promise = 12, says = "the one with the least SUM, of several the least, is CUT")
    static void theLeastSum(Edge e) {
        ClothEnds x = ruled("bale 9 5 0 0;bale 9 4 0 0;bale 9 4 0 0;bale 9 6 0 0;thumb 2;flaw 1 3;flaw 1 5", "from width");
        e.due("of two alike the least", x.serve(0, 4), 1);
        e.dueBale(x, 1, 3, 4, 0, 0, 0);
        e.due("then the other", x.serve(0, 4), 2);
        e.due("then the next SUM", x.serve(0, 8), 0);
        e.due("then the last", x.serve(0, 4), 3);
        e.due("SOLD", x.count(2), 20);
        e.due("LOST", x.count(3), 7);
        e.due("a SUM below 0", ruled("bale 9 1 0 0;bale 9 2 0 0;bale 9 3 0 0", "from 2-width").serve(0, 1), 2);
        e.due("all alike", ruled(Check.times("bale 9 1 0 0", 12, ";"), "from 7").serve(0, 1), 0);
        e.due("the last of 12", ruled(Check.times("bale 9 1 0 0", 12, ";"), "from 0-bale").serve(0, 1), 11);
        ClothEnds y = ruled("bale 9 1 0 0;bale 8 1 0 0;thumb 2;askew 5", "from 0");
        y.serve(0, 3);
        e.due("a CUT takes the thumb", y.bale(0, 0), 4);
    }

    @Sentence(promise = 12, says = "if it has an END then, and some give TEST holds (WORDS as ahead of the CUT), "
        + "that is GIVEN (the BALE has 0 then)")
    static void theEndIsGiven(Edge e) {
        String shop = "bale 20 1 0 0;thumb 1;board 5;flaw 0 3;flaw 0 19";
        int[][] all = {{13, 0, 6}, {14, 5, 0}, {18, 1, 0}, {19, 0, 0}, {20, 0, 0}};
        for (int[] one : all) {
            ClothEnds x = ruled(shop, "give 1=1;from 0");
            e.due("serve(0, " + one[0] + ")", x.serve(0, one[0]), 0);
            e.due("GIVEN by " + one[0], x.count(4), one[1]);
            e.due("left by " + one[0], x.bale(0, 0), one[2]);
            e.due("SOLD by " + one[0], x.count(2), one[0]);
        }
        ClothEnds x = ruled(shop, "from 0;give 1=2;give left=20 and rest=5 and flaws=1 and order=14 and day=0;give 1=2");
        x.serve(0, 14);
        e.due("WORDS as ahead of the CUT", x.count(4), 5);
        e.dueBale(x, 0, 0, 1, 0, 0, 0, -1, 0);
        e.due("the BASKET is empty", x.count(6), 0);
        ClothEnds y = ruled(shop, "from 0;give left<20;give order=5");
        y.serve(0, 14);
        e.due("no TEST holds", y.count(4), 0);
        e.due("the END stays", y.bale(0, 0), 5);
        e.due("the FLAW stays", y.bale(0, 5), 4);
        ClothEnds z = ruled(shop, "from 0");
        z.serve(0, 14);
        e.due("no give", z.count(4), 0);
        ClothEnds v = ruled("bale 20 1 0 0;thumb 1", "from 0;give 1=1");
        v.serve(0, 18);
        e.due("no board", v.count(4), 0);
        e.due("the rest stays", v.bale(0, 0), 1);
        ClothEnds w = ruled("bale 9 1 0 0;bale 9 2 0 0;board 9", "from 0-width;give width=1");
        e.due("serve", w.serve(0, 3), 1);
        e.due("the WORDS are of the BALE that is CUT", w.count(4), 0);
        ClothEnds t = ruled("bale 9 1 0 0;bale 9 2 0 0;board 9", "from width;give width=2");
        e.due("serve", t.serve(0, 3), 0);
        e.due("and of no other", t.count(4), 0);
        e.due("serve", t.serve(0, 7), 1);
        e.due("GIVEN", t.count(4), 2);
        ClothEnds u = ruled("bale 9 1 0 0;bale 9 2 0 0;board 9", "from width;give 1=1");
        u.serve(0, 3);
        u.serve(0, 5);
        e.due("all that is GIVEN", u.count(4), 10);
    }

    @Sentence(promise = 12, says = "No such BALE: the ORDER is REFUSED.")
    static void noSuchBale(Edge e) {
        ClothEnds x = ruled("bale 9 1 0 0;bale 9 2 0 0;board 9;thumb 1", "from 0 if width=1;give 1=1");
        String[] why = {"too great", "no TEST holds of the other"};
        int[] orders = {10, 9};
        x.cut(0, 1);
        for (int i = 0; i < 2; i++) {
            int left = x.count(7);
            e.due(why[i], x.serve(0, orders[i]), -2);
            e.due("REFUSED", x.count(5), i + 1);
            e.due("left", x.count(7), left);
            e.due("nothing GIVEN", x.count(4), 0);
            e.due("SOLD", x.count(2), 1);
        }
    }

    // ---- promise 13: day

    @Sentence(promise = 13, says = "A DAY: EIGHTHS SOLD in it")
    static void soldInADay(Edge e) {
        ClothEnds x = ruled("bale 5 1 0 0;bale 20 1 0 0;board 9;thumb 1", "from bale;give 1=1");
        x.cut(0, 2);
        // of 2 the CUT and the thumb leave nothing: there is no END
        e.due("two of 1", x.day(0, 2, 1), 2);
        e.due("SOLD", x.count(2), 4);
        e.due("nothing left to sell", ruled("bale 1 1 0 0", "from 0 if 1=2").day(0, 40, 80), 0);
        e.due("without a SHOP", withoutShop().day(0, 3, 9), 0);
        ClothEnds y = ruled("bale 9 1 0 0;board 8", "from 0;give 1=1");
        e.due("what is GIVEN is not SOLD", y.day(0, 3, 1), 1);
        e.due("GIVEN", y.count(4), 8);
        e.due("REFUSED", y.count(5), 2);
    }

    private static ClothEnds withoutShop() {
        ClothEnds x = new ClothEnds();
        Check.rule(x, "from 0");
        return x;
    }

    @Sentence(promise = 13, says = "k ORDERS (1 to 40) one behind the other, each of 1 and a DRAW mod w (1 to 80) EIGHTHS")
    static void howManyOrders(Edge e) {
        for (int k : new int[] {1, 2, 39, 40}) {
            ClothEnds x = ruled("bale 480 1 0 0", "from 0");
            e.due("day(0, " + k + ", 1)", x.day(0, k, 1), k);
            e.due("x", x.count(9), drawn(0, k));
        }
        for (int w : new int[] {1, 2, 79, 80}) {
            ClothEnds x = ruled("bale 480 1 0 0", "from 0");
            x.seed(12345);
            e.due("day(0, 1, " + w + ")", x.day(0, 1, w), 1 + drawn(12345, 1) / 65536 % w);
        }
        // the first DRAW from 12345 is 21468: by 28 it leaves 20, by 2 and 4 nothing
        ClothEnds y = ruled("bale 480 1 0 0", "from 0");
        y.seed(12345);
        e.due("the most of 28", y.day(0, 1, 28), 21);
        y.seed(12345);
        e.due("the least of 4", y.day(0, 1, 4), 1);
        ClothEnds z = ruled("bale 3 1 0 0", "from 0");
        e.due("three are one behind the other", z.day(0, 4, 1), 3);
        e.due("REFUSED", z.count(5), 1);
    }

    @Sentence(promise = 13, says = "x (0 to 2147483647; 0 at first) becomes x * 1103515245 + 12345, "
        + "of 2147483648 the rest; a DRAW is x / 65536")
    static void draws(Edge e) {
        e.due("x at first", new ClothEnds().count(9), 0);
        for (int seed : new int[] {0, 1, 12345, 1073741824, 2147483646, 2147483647}) {
            ClothEnds x = ruled("bale 480 1 0 0", "from 0");
            x.seed(seed);
            long orders = 0;
            for (int i = 1; i <= 5; i++) {
                orders += 1 + drawn(seed, i) / 65536 % 80;
            }
            e.due("five ORDERS from " + seed, x.day(0, 5, 80), orders);
            e.due("x from " + seed, x.count(9), drawn(seed, 5));
        }
        ClothEnds y = ruled("bale 480 1 0 0", "from 0 if 1=2");
        y.day(0, 1, 1);
        e.due("x from 0", y.count(9), 12345);
        // 2147483647 is as -1: 2147483648 - 1103515245 + 12345
        y.seed(2147483647);
        y.day(0, 1, 1);
        e.due("x from the greatest", y.count(9), 1043980748);
    }

    @Sentence(promise = 13, says = "-2 without these")
    static void refusedDays(Edge e) {
        for (int rule : new int[] {-1, 1, 6, MIN, MAX}) {
            e.refuses(Edge::rich, "day(" + rule + ", 1, 1)", x -> x.day(rule, 1, 1), 0);
        }
        for (int k : new int[] {0, -1, 41, MIN, MAX}) {
            e.refuses(Edge::rich, "day(0, " + k + ", 1)", x -> x.day(0, k, 1), 0);
        }
        for (int w : new int[] {0, -1, 81, MIN, MAX}) {
            e.refuses(Edge::rich, "day(0, 1, " + w + ")", x -> x.day(0, 1, w), 0);
        }
        e.refuses(() -> Check.with("bale 9 1 0 0"), "day without RULES", x -> x.day(0, 1, 1), 0);
    }

    @Sentence(promise = 13, says = "or day is 9999 (STATUS 0; REFUSED ORDERS count as STATUS 1 each)")
    static void theLastDay(Edge e) {
        // no object gets so far in 512 calls: what one does beyond them is free, and the same here
        ClothEnds x = ruled("bale 480 1 0 0", "from 0 if day=9998");
        for (int day = 0; day < 9998; day++) {
            x.day(0, 1, 1);
        }
        e.due("day", x.count(8), 9998);
        e.due("the last one", x.day(0, 2, 1), 2);
        e.due("day", x.count(8), 9999);
        e.dueStatus(x, 0, 9998, 0);
        int drawn = x.count(9);
        e.due("day is 9999", x.day(0, 2, 1), -2);
        e.dueStatus(x, 1, 9998, 0);
        e.due("day", x.count(8), 9999);
        e.due("x", x.count(9), drawn);
        e.due("SOLD", x.count(2), 2);
        e.due("a row, where day is not asked", x.days(0, 1, 3, 1, 3), 3);
        e.due("image", x.image(0), 9999);
        e.due("shop", Check.shop(x, "bale 9 1 0 0"), 1);
        Check.rule(x, "from 0");
        e.due("day 0 again", x.day(1, 1, 1), 1);
        e.due("back", x.back(0), 9999);
        e.due("day is 9999", x.day(1, 1, 1), -2);
    }

    @Sentence(promise = 13, says = "REFUSED ORDERS count as STATUS 1 each")
    static void refusedInADay(Edge e) {
        ClothEnds x = ruled("bale 5 1 0 0", "from 0");
        e.due("day", x.day(0, 40, 1), 5);
        e.due("REFUSED", x.count(5), 35);
        e.dueStatus(x, 0, 35, 0);
        e.due("day", x.day(0, 40, 80), 0);
        e.due("REFUSED", x.count(5), 75);
        e.dueStatus(x, 0, 75, 0);
        e.due("none REFUSED", Check.shop(x, "bale 40 1 0 0"), 1);
        e.due("day", x.day(0, 40, 1), 40);
        e.due("REFUSED", x.count(5), 0);
        e.dueStatus(x, 0, 75, 0);
    }

    @Sentence(promise = 13, says = "then the day (0 at first, 9999 at most) is 1 more")
    static void oneMoreDay(Edge e) {
        ClothEnds x = ruled("bale 40 1 0 0", "from 0 if day=1");
        e.due("at first", x.count(8), 0);
        e.due("all of day 0 are REFUSED", x.day(0, 3, 1), 0);
        e.due("day", x.count(8), 1);
        e.due("all of day 1 are SERVED", x.day(0, 3, 1), 3);
        e.due("day", x.count(8), 2);
        e.due("a day that is refused", x.day(0, 41, 1), -2);
        e.due("day", x.count(8), 2);
    }

    // ---- promise 14: days

    @Sentence(promise = 14, says = "What a row of d DAYS (1 to 30) would be (nothing happens, nor by STATUS)")
    static void rowsOfDays(Edge e) {
        int[] one = {1, 0, 0, 0, 479};
        int[] thirty = {480, 0, 0, 720, 0};
        for (int what = 0; what <= 4; what++) {
            int asked = what;
            e.answers(() -> ruled("bale 480 1 0 0", "from 0"), "days(0, 1, 1, 1, " + what + ")",
                x -> x.days(0, 1, 1, 1, asked), one[what]);
            e.answers(() -> ruled("bale 480 1 0 0", "from 0"), "days(0, 30, 40, 1, " + what + ")",
                x -> x.days(0, 30, 40, 1, asked), thirty[what]);
        }
        e.answersNone(Edge::rich, "days(0, 0, 1, 1, 0)", x -> x.days(0, 0, 1, 1, 0));
        e.answersNone(Edge::rich, "days(0, 31, 1, 1, 0)", x -> x.days(0, 31, 1, 1, 0));
        e.answersNone(Edge::rich, "days(0, -1, 1, 1, 0)", x -> x.days(0, -1, 1, 1, 0));
        e.answersNone(Edge::rich, "days(0, min, 1, 1, 0)", x -> x.days(0, MIN, 1, 1, 0));
        e.answersNone(Edge::rich, "days(0, max, 1, 1, 0)", x -> x.days(0, MAX, 1, 1, 0));
    }

    @Sentence(promise = 14, says = "(nothing happens, nor by STATUS)")
    static void nothingHappens(Edge e) {
        for (int what = 0; what <= 4; what++) {
            int asked = what;
            ClothEnds x = Edge.rich();
            long would = x.days(0, 30, 40, 80, what);
            e.answers(Edge::rich, "days(0, 30, 40, 80, " + what + ")", y -> y.days(0, 30, 40, 80, asked), would);
        }
        ClothEnds y = Edge.rich();
        y.days(0, 30, 40, 80, 0);
        ClothEnds z = Edge.rich();
        e.due("a day behind it", y.day(0, 9, 9), z.day(0, 9, 9));
        e.holds("all is the same", Edge.state(y).equals(Edge.state(z)));
    }

    @Sentence(promise = 14, says = "what 0: EIGHTHS SOLD, 1: LOST, 2: GIVEN, 3: ORDERS REFUSED, "
        + "4: EIGHTHS left in BALES then")
    static void whatARowWouldBe(Edge e) {
        ClothEnds x = Edge.rich();
        x.serve(0, 3);
        int[] before = {x.count(2), x.count(3), x.count(4), x.count(5), 0};
        int[] row = new int[5];
        for (int what = 0; what <= 4; what++) {
            row[what] = x.days(0, 3, 4, 5, what);
        }
        for (int i = 0; i < 3; i++) {
            x.day(0, 4, 5);
        }
        int[] then = {x.count(2), x.count(3), x.count(4), x.count(5), x.count(7)};
        for (int what = 0; what <= 4; what++) {
            e.due("days(0, 3, 4, 5, " + what + ")", row[what], then[what] - before[what]);
        }
        // 5: SOLD 1, LOST 1; 3: SOLD 1, LOST 1; what is left is GIVEN
        ClothEnds y = ruled("bale 5 1 0 0;thumb 1;board 1", "from 0;give 1=1");
        e.dueAll("a row of two DAYS", new long[] {y.days(0, 2, 2, 1, 0), y.days(0, 2, 2, 1, 1), y.days(0, 2, 2, 1, 2),
            y.days(0, 2, 2, 1, 3), y.days(0, 2, 2, 1, 4)}, 2, 2, 1, 2, 0);
    }

    @Sentence(promise = 14, says = "NONE without these (day not asked)")
    static void withoutThese(Edge e) {
        for (int rule : new int[] {-1, 1, 6, MIN, MAX}) {
            e.answersNone(Edge::rich, "days(" + rule + ", 1, 1, 1, 0)", x -> x.days(rule, 1, 1, 1, 0));
        }
        for (int k : new int[] {0, -1, 41, MIN, MAX}) {
            e.answersNone(Edge::rich, "days(0, 1, " + k + ", 1, 0)", x -> x.days(0, 1, k, 1, 0));
        }
        for (int w : new int[] {0, -1, 81, MIN, MAX}) {
            e.answersNone(Edge::rich, "days(0, 1, 1, " + w + ", 0)", x -> x.days(0, 1, 1, w, 0));
        }
        for (int what : new int[] {-1, 5, MIN, MAX}) {
            e.answersNone(Edge::rich, "days(0, 1, 1, 1, " + what + ")", x -> x.days(0, 1, 1, 1, what));
        }
        e.answersNone(ClothEnds::new, "days without RULES", x -> x.days(0, 1, 1, 1, 0));
        e.answers(ServeEdgeTest::withoutShop, "days without a SHOP", x -> x.days(0, 2, 3, 1, 3), 6);
        ClothEnds x = ruled("bale 480 1 0 0", "from 0");
        e.due("days(0, 1, 40, 1, 0)", x.days(0, 1, 40, 1, 0), 40);
        x.seed(12345);
        e.due("days(0, 1, 1, 80, 0)", x.days(0, 1, 1, 80, 0), 1 + 21468 % 80);
    }
}
