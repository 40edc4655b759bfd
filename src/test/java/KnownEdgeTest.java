/** Promises 15 to 18: a test for each sentence that names a boundary case. */
public final class KnownEdgeTest {
    public static void main(String[] args) throws IllegalAccessException {
        Edge.run(KnownEdgeTest.class);
    }

    private static final int MIN = Integer.MIN_VALUE;
    private static final int MAX = Integer.MAX_VALUE;

    private static ClothEnds known(String shop, int... orders) {
        ClothEnds x = Check.with(shop);
        for (int order : orders) {
            x.known(order);
        }
        return x;
    }

    private static long[] all(ClothEnds x) {
        return new long[] {x.all(0), x.all(1), x.all(2), x.all(3)};
    }

    // ---- promise 15: known

    @Sentence(promise = 15, says = "A KNOWN ORDER (n 0: there are none then, 0): how many there are")
    static void howManyThereAre(Edge e) {
        ClothEnds x = Check.with("bale 20 1 0 0");
        e.due("known(0) of none", x.known(0), 0);
        for (int i = 1; i <= 9; i++) {
            e.due("known(1)", x.known(1), i);
            e.due("count(11)", x.count(11), i);
        }
        e.due("all of nine", x.all(0), 9);
        e.due("known(0) of nine", x.known(0), 0);
        e.due("count(11)", x.count(11), 0);
        e.dueAll("all of none", all(x), 0, 0, 0, 0);
        e.due("known(2)", x.known(2), 1);
        e.dueAll("all of one", all(x), 2, 1, 0, 2);
        e.dueStatus(x, 0, 0, 0);
    }

    @Sentence(promise = 15, says = "-2 for others (STATUS 0)")
    static void refusedOrders(Edge e) {
        for (int n : new int[] {-1, 481, MIN, MAX}) {
            e.refuses(Edge::rich, "known(" + n + ")", x -> x.known(n), 0);
            e.refuses(ClothEnds::new, "known(" + n + ")", x -> x.known(n), 0);
            e.refuses(KnownEdgeTest::nine, "known(" + n + ") of nine", x -> x.known(n), 0);
        }
    }

    private static ClothEnds nine() {
        return known("bale 40 1 0 0", 1, 2, 3, 4, 5, 6, 7, 8, 9);
    }

    @Sentence(promise = 15, says = "or if there are 9 (2)")
    static void aTenthOrder(Edge e) {
        for (int n : new int[] {1, 9, 480}) {
            e.refuses(KnownEdgeTest::nine, "known(" + n + ") of nine", x -> x.known(n), 2);
        }
        ClothEnds x = nine();
        e.due("known(0) of nine", x.known(0), 0);
        e.due("room again", x.known(480), 1);
        e.dueStatus(x, 0, 0, 0);
    }

    @Sentence(promise = 15, says = "KNOWN ORDERS 0 to 8, told (EIGHTHS 1 to 480)")
    static void theLeastAndTheMost(Edge e) {
        ClothEnds x = Check.with("bale 480 1 0 0;bale 1 1 0 0");
        e.due("known(1)", x.known(1), 1);
        e.due("known(480)", x.known(480), 2);
        e.dueAll("all", all(x), 481, 2, 0, 481);
    }

    // ---- promise 16: all

    @Sentence(promise = 16, says = "each CUT from some BALE or from none: with the most EIGHTHS SOLD")
    static void theMostSold(Edge e) {
        e.dueAll("just as many", all(known("bale 9 1 0 0", 4, 5)), 9, 1, 0, 9);
        e.dueAll("one too many", all(known("bale 8 1 0 0", 4, 5)), 5, 1, 0, 8);
        e.dueAll("the thumb between", all(known("bale 9 1 0 0;thumb 1", 4, 5)), 5, 1, 1, 9);
        e.dueAll("the thumb has room", all(known("bale 10 1 0 0;thumb 1", 4, 5)), 9, 1, 1, 9);
        e.dueAll("the last thumb needs none", all(known("bale 10 1 0 0;thumb 1", 4, 4)), 8, 1, 2, 8);
        e.dueAll("two for one greater", all(known("bale 10 1 0 0", 9, 5, 5)), 10, 1, 0, 10);
        e.dueAll("the greater for two", all(known("bale 10 1 0 0;thumb 2", 9, 5, 4)), 9, 1, 1, 10);
        e.dueAll("from none", all(known("bale 3 1 0 0;bale 3 1 0 0", 4, 5)), 0, 0, 0, 6);
        e.dueAll("nine from nine", all(known(Check.times("bale 7 1 0 0", 9, ";"), 7, 7, 7, 7, 7, 7, 7, 7, 7)),
            63, 9, 0, 63);
        e.dueAll("nine from twelve", all(known(Check.times("bale 480 1 0 0", 12, ";"),
            480, 480, 480, 480, 480, 480, 480, 480, 480)), 4320, 9, 0, 4320);
        e.dueAll("the last of twelve", all(known(Check.times("bale 1 1 0 0;", 11, "") + "bale 9 1 0 0", 9)),
            9, 1, 0, 9);
        e.dueAll("nine from one", all(known("bale 9 1 0 0;bale 1 1 0 0", 1, 1, 1, 1, 1, 1, 1, 1, 1)), 9, 1, 0, 9);
    }

    @Sentence(promise = 16, says = "of such the fewest BALES that are cut, of these the least EIGHTHS LOST")
    static void theFewestAndTheLeast(Edge e) {
        e.dueAll("one BALE, though more is LOST", all(known("bale 5 1 0 0;bale 5 1 0 0;bale 30 1 0 0;thumb 8", 5, 5)),
            10, 1, 16, 10);
        e.dueAll("two, where one has not so many", all(known("bale 5 1 0 0;bale 5 1 0 0;bale 17 1 0 0;thumb 8", 5, 5)),
            10, 2, 0, 10);
        e.dueAll("just so many", all(known("bale 5 1 0 0;bale 5 1 0 0;bale 18 1 0 0;thumb 8", 5, 5)), 10, 1, 8, 10);
        e.dueAll("the BALE of which least is LOST", all(known("bale 9 1 0 0;bale 6 1 0 0;bale 7 1 0 0;thumb 2", 5)),
            5, 1, 1, 5);
        e.dueAll("nothing is LOST of one just so great", all(known("bale 9 1 0 0;bale 5 1 0 0;thumb 2", 5)), 5, 1, 0, 5);
        // of ORDERS that are as many EIGHTHS: 6, or 3 and 3
        e.dueAll("one CUT for two", all(known("bale 8 1 0 0;thumb 1", 3, 3, 6)), 6, 1, 1, 8);
        e.dueAll("one CUT for two", all(known("bale 8 1 0 0;thumb 1", 6, 3, 3)), 6, 1, 1, 8);
        e.dueAll("one BALE for two", all(known("bale 3 1 0 0;bale 3 1 0 0;bale 6 1 0 0;thumb 1", 3, 6)), 9, 2, 0, 9);
        e.dueAll("one BALE for two", all(known("bale 4 1 0 0;bale 5 1 0 0;thumb 8", 2, 2, 4)), 6, 2, 3, 8);
        e.dueAll("nine thumbs", all(known("bale 480 1 0 0;thumb 8", 1, 1, 1, 1, 1, 1, 1, 1, 1)), 9, 1, 72, 9);
    }

    @Sentence(promise = 16, says = "(From one BALE they are cut in the order told.)")
    static void inTheOrderTold(Edge e) {
        // 3 and 1, 4 and 1, 1 are taken of 10: the last one leaves nothing to the thumb
        e.dueAll("all of 10", all(known("bale 10 1 0 0;thumb 1", 3, 4, 1)), 8, 1, 2, 8);
        e.dueAll("in another order", all(known("bale 10 1 0 0;thumb 1", 1, 4, 3)), 8, 1, 2, 8);
        e.dueAll("a short thumb", all(known("bale 11 1 0 0;thumb 2", 3, 5)), 8, 1, 3, 8);
        e.dueAll("a thumb that takes all", all(known("bale 8 1 0 0;thumb 8", 1, 1)), 1, 1, 7, 2);
    }

    @Sentence(promise = 16, says = "BOUND: the least of all EIGHTHS of the ORDERS and all of the BALES together")
    static void bound(Edge e) {
        e.due("ORDERS", known("bale 9 1 0 0;bale 9 1 0 0", 8, 9).all(3), 17);
        e.due("both", known("bale 9 1 0 0;bale 9 1 0 0", 9, 9).all(3), 18);
        e.due("BALES", known("bale 9 1 0 0;bale 9 1 0 0", 9, 10).all(3), 18);
        e.due("without ORDERS", known("bale 9 1 0 0").all(3), 0);
        ClothEnds x = known("bale 9 1 0 0;bale 3 1 0 0;thumb 1", 480);
        x.cut(0, 4);
        e.due("what they have by now", x.all(3), 7);
        ClothEnds y = new ClothEnds();
        y.known(5);
        e.dueAll("without a SHOP", all(y), 0, 0, 0, 0);
    }

    @Sentence(promise = 16, says = "KNOWN ORDERS all at once what 0: EIGHTHS SOLD, 1: BALES that are cut, "
        + "2: EIGHTHS LOST, 3: BOUND. NONE for others.")
    static void othersThanThese(Edge e) {
        for (int what : new int[] {-1, 4, MIN, MAX}) {
            e.answersNone(Edge::rich, "all(" + what + ")", x -> x.all(what));
            e.answersNone(ClothEnds::new, "all(" + what + ")", x -> x.all(what));
        }
        for (int what = 0; what < 4; what++) {
            int asked = what;
            e.answers(Edge::rich, "all(" + what + ")", x -> x.all(asked), Edge.rich().all(what));
            e.answers(ClothEnds::new, "all(" + what + ")", x -> x.all(asked), 0);
        }
    }

    // ---- promise 17: weight

    @Sentence(promise = 17, says = "The WEIGHT of ORDERS of so many EIGHTHS (1 to 8): what it was")
    static void whatItWas(Edge e) {
        ClothEnds x = new ClothEnds();
        for (int i = 1; i <= 8; i++) {
            e.due("weight(" + i + ", 9)", x.weight(i, 9), 0);
            e.due("weight(" + i + ", " + (i - 1) + ")", x.weight(i, i - 1), 9);
        }
        for (int i = 1; i <= 8; i++) {
            e.due("weight(" + i + ", 0)", x.weight(i, 0), i - 1);
        }
        e.dueStatus(x, 0, 0, 0);
    }

    @Sentence(promise = 17, says = "-2 without these (STATUS 0)")
    static void refusedWeights(Edge e) {
        for (int eighths : new int[] {0, -1, 9, MIN, MAX}) {
            e.refuses(Edge::rich, "weight(" + eighths + ", 1)", x -> x.weight(eighths, 1), 0);
        }
        for (int weight : new int[] {-1, 10, MIN, MAX}) {
            e.refuses(Edge::rich, "weight(2, " + weight + ")", x -> x.weight(2, weight), 0);
            e.refuses(ClothEnds::new, "weight(8, " + weight + ")", x -> x.weight(8, weight), 0);
        }
        ClothEnds x = Edge.rich();
        x.weight(2, 10);
        e.due("it is as it was", x.weight(2, 0), 3);
    }

    @Sentence(promise = 17, says = "by told WEIGHTS (0 to 9 each, 1 together at least)")
    static void oneTogetherAtLeast(Edge e) {
        ClothEnds x = Check.with("bale 9 1 0 0");
        e.due("none", x.which(1, 1, 0), -2);
        for (int i = 1; i <= 8; i++) {
            x.weight(i, 1);
            e.due("one of " + i, x.which(1, 1, 1), i == 8 ? 9 : 1 + i);
            x.weight(i, 0);
            e.due("none", x.which(1, 1, 1), -2);
        }
        x.weight(8, 9);
        x.weight(1, 9);
        // 1 and 4.5 by the means of 1 and 8
        e.due("all alike", x.which(1, 1, 1), 11);
        e.due("all alike", x.which(1, 1, 2), 2);
        x.weight(1, 1);
        e.due("one of ten is 1", x.which(1, 1, 1), 83);
        e.due("one of ten is 1", x.which(1, 1, 2), 10);
    }

    // ---- promise 18: which

    private static ClothEnds weighed(String shop, int... weights) {
        ClothEnds x = Check.with(shop);
        for (int i = 0; i < weights.length; i++) {
            x.weight(i + 1, weights[i]);
        }
        return x;
    }

    private static long[] which(ClothEnds x, int order, int n) {
        return new long[] {x.which(order, n, 0), x.which(order, n, 1), x.which(order, n, 2)};
    }

    @Sentence(promise = 18, says = "WHICH what 0: BALE (NONE: refused), 1, 2: the mean, above, below the line.")
    static void bestIsToRefuse(Edge e) {
        e.dueAll("no BALE has so many", which(weighed("bale 3 1 0 0;bale 5 1 0 0", 1), 6, 0), -1, 0, 1);
        e.dueAll("480 of 40", which(weighed("bale 40 1 0 0", 1), 480, 1), -1, 1, 1);
        e.dueAll("40 of 40", which(weighed("bale 40 1 0 0", 1), 40, 0), 0, 40, 1);
        e.dueAll("it keeps the BALE for more", which(weighed("bale 8 1 0 0", 0, 0, 0, 0, 0, 0, 0, 1), 1, 1), -1, 8, 1);
        e.dueAll("with nothing to come", which(weighed("bale 8 1 0 0", 0, 0, 0, 0, 0, 0, 0, 1), 1, 0), 0, 1, 1);
        ClothEnds x = weighed("bale 8 1 0 0", 1);
        x.cut(0, 8);
        e.dueAll("no BALE has something", which(x, 1, 4), -1, 0, 1);
        ClothEnds y = new ClothEnds();
        y.weight(1, 1);
        e.dueAll("without a SHOP", which(y, 1, 4), -1, 0, 1);
    }

    @Sentence(promise = 18, says = "with n more ORDERS (0 to 4) to come, each of 1 to 8 EIGHTHS")
    static void moreToCome(Edge e) {
        for (int n = 0; n <= 4; n++) {
            e.dueAll(n + " of 1", which(weighed("bale 40 1 0 0", 1), 1, n), 0, 1 + n, 1);
            e.dueAll(n + " of 8", which(weighed("bale 40 1 0 0", 0, 0, 0, 0, 0, 0, 0, 9), 8, n), 0, 8 + 8 * n, 1);
        }
        for (int n : new int[] {-1, 5, MIN, MAX}) {
            e.answers(Edge::rich, "which(1, " + n + ", 0)", x -> x.which(1, n, 0), -2);
        }
        e.dueAll("the thumb leaves for three", which(weighed("bale 5 1 0 0;thumb 1", 1), 1, 4), 0, 3, 1);
        // 1 or 8 of 8, where a 1 takes all: of one 9 / 2, of two 25 / 4, of three 57 / 8, of four 121 / 16
        int[] some = {1, 0, 0, 0, 0, 0, 0, 1};
        long[] above = {0, 9, 25, 57, 121};
        for (int n = 1; n <= 4; n++) {
            e.dueAll(n + " of 1 or 8", which(weighed("bale 8 1 0 0;thumb 8", some), 9, n), -1, above[n], 1L << n);
        }
    }

    @Sentence(promise = 18, says = "of several the least, refusing behind all")
    static void ofSeveralTheLeast(Edge e) {
        e.dueAll("three alike", which(weighed("bale 9 1 0 0;bale 9 1 0 0;bale 9 1 0 0", 1), 3, 2), 0, 5, 1);
        e.dueAll("the second", which(weighed("bale 2 1 0 0;bale 9 1 0 0;bale 9 1 0 0", 1), 3, 0), 1, 3, 1);
        e.dueAll("the third", which(weighed("bale 2 1 0 0;bale 2 1 0 0;bale 9 1 0 0", 1), 3, 0), 2, 3, 1);
        e.dueAll("to refuse is as good", which(weighed("bale 8 1 0 0", 0, 0, 0, 0, 0, 0, 0, 1), 8, 1), 0, 8, 1);
        e.dueAll("to refuse is better", which(weighed("bale 8 1 0 0", 0, 0, 0, 0, 0, 0, 0, 1), 7, 1), -1, 8, 1);
        ClothEnds x = weighed("bale 9 1 0 0;bale 5 1 0 0;bale 9 1 0 0;bale 5 1 0 0", 0, 0, 0, 0, 1);
        x.cut(0, 9);
        e.dueAll("the BALES keep their numbers", which(x, 4, 1), 1, 9, 1);
        x.cut(1, 5);
        e.dueAll("the BALES keep their numbers", which(x, 5, 1), 2, 10, 1);
    }

    @Sentence(promise = 18, says = "The mean: a fraction, in lowest terms.")
    static void lowestTerms(Edge e) {
        e.dueAll("2 / 2", which(weighed("bale 9 1 0 0", 2), 10, 1), -1, 1, 1);
        e.dueAll("0 / 1", which(weighed("bale 9 1 0 0;thumb 8", 9, 9, 9, 9, 9, 9, 9, 9), 10, 0), -1, 0, 1);
        e.dueAll("324 / 72", which(weighed("bale 9 1 0 0", 9, 9, 9, 9, 9, 9, 9, 9), 10, 1), -1, 9, 2);
        // of 1 to 8 four times, from BALES of which each has enough: 40 and 18
        e.dueAll("58 and nothing below", which(weighed("bale 40 1 0 0;bale 40 1 0 0;bale 40 1 0 0",
            9, 9, 9, 9, 9, 9, 9, 9), 40, 4), 0, 58, 1);
        e.dueAll("13 / 3", which(weighed("bale 9 1 0 0", 1, 0, 2), 2, 1), 0, 13, 3);
        e.dueAll("0 / 6561", which(weighed("bale 1 1 0 0", 0, 9), 2, 4), -1, 0, 1);
    }

    @Sentence(promise = 18, says = "-2 without these (order 1 to 480, too many or too great BALES, no WEIGHTS)")
    static void withoutThese(Edge e) {
        for (int order : new int[] {0, -1, 481, MIN, MAX}) {
            e.answers(Edge::rich, "which(" + order + ", 1, 0)", x -> x.which(order, 1, 0), -2);
        }
        e.due("which(480, 1, 0)", Edge.rich().which(480, 1, 0), -1);
        for (int what : new int[] {-1, 3, MIN, MAX}) {
            e.answers(Edge::rich, "which(1, 1, " + what + ")", x -> x.which(1, 1, what), -2);
        }
        for (int what = 0; what < 3; what++) {
            int asked = what;
            e.answers(() -> weighed("bale 9 1 0 0"), "no WEIGHTS", x -> x.which(1, 1, asked), -2);
            e.answers(ClothEnds::new, "no WEIGHTS", x -> x.which(1, 0, asked), -2);
            e.answers(() -> weighed("bale 41 1 0 0", 1), "too great a BALE", x -> x.which(1, 1, asked), -2);
            e.answers(() -> weighed(Check.times("bale 1 1 0 0", 4, ";"), 1), "four BALES", x -> x.which(1, 1, asked), -2);
        }
    }

    @Sentence(promise = 18, says = "(3 BALES at most that have something, each 40 EIGHTHS at most)")
    static void threeOfForty(Edge e) {
        e.due("40", weighed("bale 40 1 0 0", 1).which(1, 0, 0), 0);
        e.due("41", weighed("bale 41 1 0 0", 1).which(1, 0, 0), -2);
        e.due("41 behind others", weighed("bale 1 1 0 0;bale 1 1 0 0;bale 41 1 0 0", 1).which(1, 0, 0), -2);
        ClothEnds x = weighed(Check.times("bale 40 1 0 0", 12, ";"), 1);
        for (int i = 11; i > 3; i--) {
            x.cut(i, 40);
        }
        e.due("four have something", x.which(1, 0, 0), -2);
        x.cut(1, 39);
        e.due("four have something", x.which(1, 0, 0), -2);
        x.cut(1, 1);
        e.due("three have something", x.which(1, 0, 0), 0);
        ClothEnds y = weighed("bale 42 1 0 0;thumb 1", 1);
        y.cut(0, 1);
        e.due("40 by now", y.which(40, 0, 0), 0);
        ClothEnds z = weighed("bale 9 1 0 0;bale 8 1 0 0;bale 7 1 0 0;thumb 8", 1);
        e.dueAll("three BALES serve three", which(z, 10, 4), -1, 3, 1);
        z.cut(1, 8);
        e.dueAll("two BALES serve two", which(z, 10, 4), -1, 2, 1);
        z.cut(0, 9);
        e.dueAll("one BALE serves one", which(z, 10, 4), -1, 1, 1);
        e.due("it is the last", z.which(7, 0, 0), 2);
        z.cut(2, 7);
        e.dueAll("no BALE serves", which(z, 7, 4), -1, 0, 1);
        e.dueAll("one of a greater BALE", which(weighed("bale 1 1 0 0;bale 1 1 0 0;bale 40 1 0 0", 0, 0, 0, 1), 480, 4),
            -1, 16, 1);
        e.dueAll("one of a greater BALE", which(weighed("bale 1 1 0 0;bale 40 1 0 0;bale 1 1 0 0", 0, 0, 0, 1), 480, 4),
            -1, 16, 1);
    }

    @Sentence(promise = 18, says = "(3 BALES at most that have something, each 40 EIGHTHS at most)")
    static void eachOfThree(Edge e) {
        String[] bales = {"bale 1 1 0 0", "bale 2 1 0 0", "bale 5 1 0 0"};
        int[][] orders = {{0, 1, 2}, {0, 2, 1}, {1, 0, 2}, {1, 2, 0}, {2, 0, 1}, {2, 1, 0}};
        for (int[] order : orders) {
            String shop = bales[order[0]] + ";" + bales[order[1]] + ";" + bales[order[2]];
            // 2 or 5, once: 2 and 5; twice: 4 and 7, 7 and 5
            e.dueAll("one of " + shop, which(weighed(shop, 0, 1, 0, 0, 1), 9, 1), -1, 7, 2);
            e.dueAll("two of " + shop, which(weighed(shop, 0, 1, 0, 0, 1), 9, 2), -1, 23, 4);
            // 1, 2 or 5, twice: 2, 3 and 6, 3, 4 and 7, 6, 7 and 5
            e.dueAll("of all three of " + shop, which(weighed(shop, 1, 1, 0, 0, 1), 9, 2), -1, 43, 9);
            for (int i = 0; i < 3; i++) {
                ClothEnds x = weighed(shop, 1, 1, 0, 0, 1);
                int now = new int[] {1, 2, 5}[order[i]];
                e.due("the BALE of just " + now + " in " + shop, x.which(now, 3, 0), i);
            }
        }
    }
}
