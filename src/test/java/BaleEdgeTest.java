/** Promises 6 to 11: a test for each sentence that names a boundary case. */
public final class BaleEdgeTest {
    public static void main(String[] args) throws IllegalAccessException {
        Edge.run(BaleEdgeTest.class);
    }

    private static final int MIN = Integer.MIN_VALUE;
    private static final int MAX = Integer.MAX_VALUE;

    // ---- promise 6: bale

    @Sentence(promise = 6, says = "Of a BALE what 0: EIGHTHS it has, 1: width, 2: lot, 3: stripe, 4: FLAWS")
    static void leastAndMostOfABale(Edge e) {
        ClothEnds x = Check.with("bale 1 1 0 0;bale 480 99 9 96;" + Check.times("flaw 1 479", 16, ";"));
        e.dueBale(x, 0, 1, 1, 0, 0, 0);
        e.dueBale(x, 1, 480, 99, 9, 96, 16);
        x.cut(0, 1);
        e.dueBale(x, 0, 0, 1, 0, 0, 0);
        x.cut(1, 479);
        e.dueBale(x, 1, 1, 99, 9, 96, 16);
        x.cut(1, 1);
        e.dueBale(x, 1, 0, 99, 9, 96, 0);
    }

    @Sentence(promise = 6, says = "5: in which EIGHTH the nearest FLAW is (NONE: there is none)")
    static void theNearestFlaw(Edge e) {
        ClothEnds x = Check.with("bale 9 1 0 0;bale 9 1 0 0;bale 9 1 0 0;bale 9 1 0 0;"
            + "flaw 1 8;flaw 2 5;flaw 2 3;flaw 2 3;flaw 2 7;flaw 3 0");
        e.due("none, though others have", x.bale(0, 5), -1);
        e.due("the last EIGHTH", x.bale(1, 5), 8);
        e.due("the nearest is not told first", x.bale(2, 5), 3);
        e.due("the first EIGHTH", x.bale(3, 5), 0);
        x.cut(2, 3);
        e.due("nearer", x.bale(2, 5), 0);
        x.cut(2, 1);
        e.due("the next", x.bale(2, 5), 1);
        x.cut(2, 4);
        e.due("none behind the last", x.bale(2, 5), -1);
        x.cut(3, 1);
        e.due("none behind the only one", x.bale(3, 5), -1);
    }

    @Sentence(promise = 6, says = "6: 1 if it has an END, else 0")
    static void whetherAnEnd(Edge e) {
        ClothEnds x = Check.with("bale 7 1 0 0;board 5");
        int[] ends = {0, 0, 1, 1, 1, 1, 1, 0};
        for (int i = 0; i < ends.length; i++) {
            e.due("with " + (7 - i), x.bale(0, 6), ends[i]);
            x.cut(0, 1);
        }
    }

    @Sentence(promise = 6, says = "An END is what a BALE has, if that is 1 to board")
    static void oneToBoard(Edge e) {
        e.due("80 by 80", Check.with("bale 80 1 0 0;board 80").bale(0, 6), 1);
        e.due("81 by 80", Check.with("bale 81 1 0 0;board 80").bale(0, 6), 0);
        e.due("1 by 80", Check.with("bale 1 1 0 0;board 80").bale(0, 6), 1);
        e.due("1 by 1", Check.with("bale 1 1 0 0;board 1").bale(0, 6), 1);
        e.due("2 by 1", Check.with("bale 2 1 0 0;board 1").bale(0, 6), 0);
        e.due("1 by 0", Check.with("bale 1 1 0 0;board 0").bale(0, 6), 0);
        e.due("1 without a board", Check.with("bale 1 1 0 0").bale(0, 6), 0);
        ClothEnds x = Check.with("bale 1 1 0 0;board 80");
        x.cut(0, 1);
        e.due("0 by 80", x.bale(0, 6), 0);
    }

    @Sentence(promise = 6, says = "NONE without these.")
    static void noSuchBale(Edge e) {
        for (int bale : new int[] {-1, 4, 11, 12, MIN, MAX}) {
            for (int what : new int[] {0, 5, 6}) {
                e.answersNone(Edge::rich, "bale(" + bale + ", " + what + ")", x -> x.bale(bale, what));
            }
        }
        for (int what : new int[] {-1, 7, MIN, MAX}) {
            e.answersNone(Edge::rich, "bale(0, " + what + ")", x -> x.bale(0, what));
        }
        e.answersNone(ClothEnds::new, "bale(0, 0)", x -> x.bale(0, 0));
        ClothEnds y = Check.with(Check.times("bale 9 1 0 0", 12, ";"));
        e.due("bale(11, 0)", y.bale(11, 0), 9);
        e.due("bale(12, 0)", y.bale(12, 0), -1);
    }

    // ---- promises 7 and 8: cut, tear

    @Sentence(promise = 7, says = "A CUT of n EIGHTHS (1 to 480)")
    static void howMuchIsCut(Edge e) {
        for (int n : new int[] {0, -1, 481, MIN, MAX}) {
            e.refuses(Edge::rich, "cut(0, " + n + ")", x -> x.cut(0, n), 0);
        }
        ClothEnds x = Check.with("bale 480 1 0 0;bale 480 1 0 0");
        e.due("cut(0, 1)", x.cut(0, 1), 0);
        e.due("left", x.bale(0, 0), 479);
        e.due("cut(1, 480)", x.cut(1, 480), 0);
        e.due("left", x.bale(1, 0), 0);
        e.due("SOLD", x.count(2), 481);
    }

    @Sentence(promise = 7, says = "takes n and the thumb from the open end of a BALE that has n at least "
        + "(all it has, if that is less)")
    static void theThumb(Edge e) {
        int[][] all = {{6, 0, 4}, {6, 3, 1}, {6, 4, 0}, {6, 5, 0}, {6, 8, 0}, {9, 1, 0}, {9, 2, 0}, {10, 0, 0}, {10, 8, 0},
            {1, 8, 1}};
        for (int[] one : all) {
            ClothEnds x = Check.with("bale 10 1 0 0;thumb " + one[1] + ";askew 7");
            String call = "cut(0, " + one[0] + ") with a thumb of " + one[1];
            e.due(call, x.cut(0, one[0]), 0);
            e.due("left behind " + call, x.bale(0, 0), one[2]);
            e.due("SOLD by " + call, x.count(2), one[0]);
            e.due("LOST by " + call, x.count(3), 10 - one[0] - one[2]);
            e.due("all left behind " + call, x.count(7), one[2]);
        }
        ClothEnds x = Check.with("bale 10 1 0 0;thumb 8");
        e.due("more than it has", x.cut(0, 11), -2);
        e.due("it stays", x.bale(0, 0), 10);
        x.cut(0, 10);
        e.due("of nothing", x.cut(0, 1), -2);
    }

    @Sentence(promise = 7, says = "n are SOLD, the others LOST")
    static void soldAndLost(Edge e) {
        ClothEnds x = Check.with("bale 30 1 0 0;bale 4 1 0 0;thumb 3");
        x.cut(0, 5);
        x.cut(0, 20);
        x.cut(1, 4);
        e.due("SOLD", x.count(2), 29);
        e.due("LOST", x.count(3), 5);
        e.due("left", x.count(7), 0);
        e.due("GIVEN and REFUSED", x.count(4) + x.count(5), 0);
    }

    @Sentence(promise = 7, says = "FLAWS in what is taken are gone, the others are so much nearer to the open end")
    static void flawsBehindACut(Edge e) {
        String shop = "bale 20 1 0 0;bale 20 1 0 0;thumb 3;flaw 0 6;flaw 0 7;flaw 0 8;flaw 0 19;flaw 1 0";
        ClothEnds x = Check.with(shop);
        // 5 and 3 are taken: the FLAWS of 6 and 7 lie beneath the thumb
        e.due("cut(0, 5)", x.cut(0, 5), 0);
        e.dueBale(x, 0, 12, 1, 0, 0, 2, 0);
        e.dueBale(x, 1, 20, 1, 0, 0, 1, 0);
        x = Check.with(shop);
        x.cut(0, 4);
        e.dueBale(x, 0, 13, 1, 0, 0, 3, 0);
        x = Check.with(shop);
        x.cut(0, 3);
        e.dueBale(x, 0, 14, 1, 0, 0, 4, 0);
        x = Check.with(shop);
        x.cut(0, 16);
        e.dueBale(x, 0, 1, 1, 0, 0, 1, 0);
        x = Check.with(shop);
        e.due("cut(0, 17)", x.cut(0, 17), 3);
        e.dueBale(x, 0, 0, 1, 0, 0, 0, -1);
        e.dueBale(x, 1, 20, 1, 0, 0, 1, 0);
    }

    @Sentence(promise = 7, says = "A CUT: how many FLAWS are in what is SOLD")
    static void flawsInWhatIsSold(Edge e) {
        String shop = "bale 20 1 0 0;bale 20 1 0 0;thumb 8;flaw 0 0;flaw 0 5;flaw 0 5;flaw 0 6;flaw 1 1;flaw 0 19";
        int[][] all = {{1, 1}, {5, 1}, {6, 3}, {7, 4}, {19, 4}, {20, 5}};
        for (int[] one : all) {
            e.due("cut(0, " + one[0] + ")", Check.with(shop).cut(0, one[0]), one[1]);
        }
        e.due("all 16", Check.with("bale 2 1 0 0;" + Check.times("flaw 0 0", 16, ";")).cut(0, 1), 16);
        e.due("none", Check.with("bale 2 1 0 0;flaw 0 1").cut(0, 1), 0);
    }

    @Sentence(promise = 7, says = "-2: it can't be (STATUS 0, then 1)")
    static void refusedCuts(Edge e) {
        for (int bale : new int[] {-1, 4, 12, MIN, MAX}) {
            e.refuses(Edge::rich, "cut(" + bale + ", 1)", x -> x.cut(bale, 1), 0);
            e.refuses(Edge::rich, "cut(" + bale + ", 480)", x -> x.cut(bale, 480), 0);
        }
        // the BALE has 20; what is out of 1 to 480 is no matter of having
        e.refuses(Edge::rich, "cut(1, 481)", x -> x.cut(1, 481), 0);
        e.refuses(Edge::rich, "cut(1, 21)", x -> x.cut(1, 21), 1);
        e.refuses(Edge::rich, "cut(1, 480)", x -> x.cut(1, 480), 1);
        // its END lies in the BASKET
        e.refuses(Edge::rich, "cut(3, 1)", x -> x.cut(3, 1), 1);
        e.due("cut(1, 20)", Edge.rich().cut(1, 20), 1);
    }

    @Sentence(promise = 8, says = "To TEAR is the same with askew in place of the thumb.")
    static void askewInPlaceOfTheThumb(Edge e) {
        int[][] all = {{6, 0, 4}, {6, 3, 1}, {6, 4, 0}, {6, 5, 0}, {6, 8, 0}, {9, 1, 0}, {10, 0, 0}, {10, 8, 0}};
        for (int[] one : all) {
            ClothEnds x = Check.with("bale 10 1 0 0;thumb 7;askew " + one[1]);
            String call = "tear(0, " + one[0] + ") with askew " + one[1];
            e.due(call, x.tear(0, one[0]), 0);
            e.due("left behind " + call, x.bale(0, 0), one[2]);
            e.due("SOLD by " + call, x.count(2), one[0]);
            e.due("LOST by " + call, x.count(3), 10 - one[0] - one[2]);
        }
        ClothEnds x = Check.with("bale 20 1 0 0;thumb 8;askew 2;flaw 0 3;flaw 0 4;flaw 0 5;flaw 0 6");
        e.due("tear(0, 4)", x.tear(0, 4), 1);
        e.dueBale(x, 0, 14, 1, 0, 0, 1, 0);
    }

    @Sentence(promise = 8, says = "To TEAR, as cut.")
    static void refusedTears(Edge e) {
        for (int n : new int[] {0, -1, 481, MIN, MAX}) {
            e.refuses(Edge::rich, "tear(0, " + n + ")", x -> x.tear(0, n), 0);
        }
        for (int bale : new int[] {-1, 4, 12, MIN, MAX}) {
            e.refuses(Edge::rich, "tear(" + bale + ", 1)", x -> x.tear(bale, 1), 0);
            e.refuses(Edge::rich, "tear(" + bale + ", 480)", x -> x.tear(bale, 480), 0);
        }
        e.refuses(Edge::rich, "tear(1, 21)", x -> x.tear(1, 21), 1);
        e.refuses(Edge::rich, "tear(1, 480)", x -> x.tear(1, 480), 1);
        e.refuses(Edge::rich, "tear(3, 1)", x -> x.tear(3, 1), 1);
        e.due("tear(1, 20)", Edge.rich().tear(1, 20), 1);
        e.due("tear(0, 480)", Check.with("bale 480 1 0 0").tear(0, 480), 0);
    }

    // ---- promise 9: basket

    @Sentence(promise = 9, says = "The END of a BALE comes into the BASKET: how many ENDS lie there")
    static void endsComeIntoTheBasket(Edge e) {
        ClothEnds x = Check.with("bale 1 1 0 0;bale 80 1 0 0;bale 30 1 0 0;board 80");
        e.due("basket(1)", x.basket(1), 1);
        e.due("basket(0)", x.basket(0), 2);
        e.due("basket(2)", x.basket(2), 3);
        e.due("ENDS", x.count(6), 3);
        e.dueEnd(x, 0, 80);
        e.dueEnd(x, 1, 1);
        e.dueEnd(x, 2, 30);
        e.due("left", x.count(7), 0);
        e.due("nothing SOLD, LOST, GIVEN", x.count(2) + x.count(3) + x.count(4), 0);
    }

    @Sentence(promise = 9, says = "put into the BASKET (10 ENDS at most), it lies there with its width, lot and how many "
        + "FLAWS it has; the BALE has 0 then")
    static void asItLiesThere(Edge e) {
        ClothEnds x = Check.with("bale 9 99 9 96;bale 9 1 0 0;board 8;thumb 1;"
            + "flaw 0 0;flaw 0 1;flaw 0 8;flaw 0 8;flaw 1 3");
        e.due("no END", x.basket(0), -2);
        // the EIGHTHS 0 and 1 are taken, with their FLAWS
        x.cut(0, 1);
        e.due("basket(0)", x.basket(0), 1);
        e.dueEnd(x, 0, 7, 99, 9, 2);
        e.dueBale(x, 0, 0, 99, 9, 96, 0, -1, 0);
        e.dueBale(x, 1, 9, 1, 0, 0, 1, 3, 0);
        x.cut(1, 3);
        x.basket(1);
        e.dueEnd(x, 1, 5, 1, 0, 0);
    }

    private static ClothEnds tenEnds() {
        ClothEnds x = Check.with(Check.times("bale 3 1 1 1", 11, ";") + ";bale 9 1 1 1;board 3");
        for (int i = 0; i < 10; i++) {
            x.basket(i);
        }
        return x;
    }

    @Sentence(promise = 9, says = "10 ENDS at most")
    static void tenEndsAtMost(Edge e) {
        e.due("ten lie there", tenEnds().count(6), 10);
        e.refuses(BaleEdgeTest::tenEnds, "an eleventh", x -> x.basket(10), 2);
        ClothEnds x = tenEnds();
        e.due("out of a full BASKET", x.out(9), 3);
        e.due("room again", x.basket(10), 10);
        e.due("status(2)", x.status(2), 0);
    }

    @Sentence(promise = 9, says = "-2: it can't (STATUS 0, then 1 without an END, then 2)")
    static void refusedBaskets(Edge e) {
        for (int bale : new int[] {-1, 4, 12, MIN, MAX}) {
            e.refuses(Edge::rich, "basket(" + bale + ")", x -> x.basket(bale), 0);
        }
        e.refuses(Edge::rich, "too great for an END", x -> x.basket(1), 1);
        e.refuses(Edge::rich, "nothing is no END", x -> x.basket(3), 1);
        e.due("of 6 with a board of 6", Edge.rich().basket(2), 2);
        e.refuses(() -> Check.with("bale 1 1 0 0"), "without a board", x -> x.basket(0), 1);
        e.refuses(() -> Check.with("bale 1 1 0 0;board 80"), "no BALE", x -> x.basket(1), 0);
        e.refuses(BaleEdgeTest::tenEnds, "no BALE, ahead of no room", x -> x.basket(12), 0);
        e.refuses(BaleEdgeTest::tenEnds, "no END, ahead of no room", x -> x.basket(11), 1);
        e.refuses(BaleEdgeTest::tenEnds, "nothing, ahead of no room", x -> x.basket(0), 1);
    }

    // ---- promises 10 and 11: ends, out

    @Sentence(promise = 10, says = "Of an END in the BASKET what 0: length, 1: width, 2: lot, 3: FLAWS.")
    static void whatAnEndHas(Edge e) {
        ClothEnds x = Check.with("bale 80 99 9 0;bale 1 1 0 0;board 80;" + Check.times("flaw 0 79", 16, ";"));
        x.basket(0);
        x.basket(1);
        e.dueEnd(x, 0, 80, 99, 9, 16);
        e.dueEnd(x, 1, 1, 1, 0, 0);
        e.due("the tenth", tenEnds().ends(9, 0), 3);
    }

    @Sentence(promise = 10, says = "NONE without these.")
    static void noSuchEnd(Edge e) {
        for (int end : new int[] {-1, 1, 9, 10, MIN, MAX}) {
            for (int what = 0; what < 4; what++) {
                int asked = what;
                e.answersNone(Edge::rich, "ends(" + end + ", " + what + ")", x -> x.ends(end, asked));
            }
        }
        for (int what : new int[] {-1, 4, MIN, MAX}) {
            e.answersNone(Edge::rich, "ends(0, " + what + ")", x -> x.ends(0, what));
        }
        e.answersNone(ClothEnds::new, "ends(0, 0)", x -> x.ends(0, 0));
        e.answersNone(BaleEdgeTest::tenEnds, "ends(10, 0)", x -> x.ends(10, 0));
        ClothEnds x = Edge.rich();
        x.out(0);
        e.due("behind out", x.ends(0, 0), -1);
    }

    @Sentence(promise = 11, says = "An END is sold out of the BASKET; those behind it move up: its length")
    static void thoseBehindMoveUp(Edge e) {
        StringBuilder shop = new StringBuilder("board 80");
        for (int i = 0; i < 10; i++) {
            shop.append(";bale ").append(10 + i).append(' ').append(30 + i).append(' ').append(i).append(" 0");
        }
        ClothEnds x = Check.with(shop + ";flaw 1 1;flaw 9 9");
        for (int i = 0; i < 10; i++) {
            x.basket(i);
        }
        e.due("the last of ten", x.out(9), 19);
        e.due("ENDS", x.count(6), 9);
        e.dueEnd(x, 8, 18, 38, 8, 0);
        e.dueEnd(x, 9, -1);
        e.due("the first", x.out(0), 10);
        for (int i = 0; i < 8; i++) {
            e.dueEnd(x, i, 11 + i, 31 + i, 1 + i, i == 0 ? 1 : 0);
        }
        e.dueEnd(x, 8, -1);
        e.due("one between", x.out(3), 14);
        e.dueEnd(x, 2, 13, 33, 3, 0);
        e.dueEnd(x, 3, 15, 35, 5, 0);
        for (int i = 7; i > 0; i--) {
            x.out(0);
        }
        e.due("ENDS", x.count(6), 0);
        e.due("left, BALES", x.count(7) + x.count(0), 10);
    }

    @Sentence(promise = 11, says = "-2 without it (STATUS 0)")
    static void refusedOuts(Edge e) {
        for (int end : new int[] {-1, 1, 9, 10, MIN, MAX}) {
            e.refuses(Edge::rich, "out(" + end + ")", x -> x.out(end), 0);
        }
        e.refuses(ClothEnds::new, "out(0)", x -> x.out(0), 0);
        e.refuses(BaleEdgeTest::tenEnds, "out(10)", x -> x.out(10), 0);
        e.refuses(() -> {
            ClothEnds x = Edge.rich();
            x.out(0);
            return x;
        }, "out of an empty BASKET", x -> x.out(0), 0);
    }
}
