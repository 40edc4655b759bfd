/** Promises 19 to 22: a test for each sentence that names a boundary case. */
public final class DropsEdgeTest {
    public static void main(String[] args) throws IllegalAccessException {
        Edge.run(DropsEdgeTest.class);
    }

    private static final int MIN = Integer.MIN_VALUE;
    private static final int MAX = Integer.MAX_VALUE;

    // ---- promise 19: drops

    @Sentence(promise = 19, says = "SETS: how many DROPS a BALE has (at most 20)")
    static void atMostTwenty(Edge e) {
        int[][] all = {{1, 1, 1}, {19, 1, 19}, {20, 1, 20}, {21, 1, 20}, {480, 1, 20}, {479, 24, 19}, {480, 24, 20},
            {480, 23, 20}, {480, 80, 6}, {80, 80, 1}, {79, 80, 0}, {159, 80, 1}, {160, 80, 2}};
        for (int[] one : all) {
            ClothEnds x = Check.with("bale " + one[0] + " 1 0 0");
            e.due("drops(0, " + one[1] + ") of " + one[0], x.drops(0, one[1]), one[2]);
        }
        ClothEnds x = Check.with("bale 5 1 0 0");
        x.cut(0, 5);
        e.due("drops of nothing", x.drops(0, 1), 0);
    }

    @Sentence(promise = 19, says = "each CUT by itself (the thumb each time)")
    static void theThumbEachTime(Edge e) {
        int[][] all = {{10, 5, 0, 2}, {10, 5, 1, 1}, {11, 5, 1, 2}, {12, 5, 1, 2}, {16, 5, 1, 2}, {17, 5, 1, 3},
            {5, 5, 8, 1}, {13, 5, 8, 1}, {17, 5, 8, 1}, {18, 5, 8, 2}, {172, 1, 8, 20}, {171, 1, 8, 19}};
        for (int[] one : all) {
            ClothEnds x = Check.with("bale " + one[0] + " 1 0 0;askew 3;thumb " + one[2]);
            e.due("drops(0, " + one[1] + ") of " + one[0] + " by " + one[2], x.drops(0, one[1]), one[3]);
        }
    }

    @Sentence(promise = 19, says = "NONE without these.")
    static void noSuchDrops(Edge e) {
        for (int bale : new int[] {-1, 4, 12, MIN, MAX}) {
            e.answersNone(Edge::rich, "drops(" + bale + ", 1)", x -> x.drops(bale, 1));
        }
        for (int d : new int[] {0, -1, 81, MIN, MAX}) {
            e.answersNone(Edge::rich, "drops(0, " + d + ")", x -> x.drops(0, d));
        }
        e.answersNone(ClothEnds::new, "drops(0, 1)", x -> x.drops(0, 1));
        e.answers(Edge::rich, "drops(3, 80)", x -> x.drops(3, 80), 0);
    }

    // ---- promise 20: lots

    @Sentence(promise = 20, says = "SETS: lots (as bits) by which k DROPS of d can be had")
    static void lotsAsBits(Edge e) {
        StringBuilder shop = new StringBuilder("thumb 0");
        for (int lot = 0; lot <= 9; lot++) {
            shop.append(";bale ").append(10 + lot).append(" 1 ").append(lot).append(" 0");
        }
        ClothEnds x = Check.with(shop.toString());
        for (int k = 10; k <= 20; k++) {
            int bits = 0;
            for (int lot = Math.max(0, k - 10); lot <= 9; lot++) {
                bits += 1 << lot;
            }
            e.due("lots(" + k + ", 1)", x.lots(k, 1), bits);
        }
        e.due("all lots", x.lots(1, 10), 1023);
        e.due("the last lot", x.lots(1, 19), 512);
        e.due("no lot", x.lots(1, 20), 0);
        e.due("lots without a SHOP", new ClothEnds().lots(1, 1), 0);
    }

    @Sentence(promise = 20, says = "of a lot: by all BALES of it")
    static void byAllBalesOfALot(Edge e) {
        ClothEnds x = Check.with("bale 11 1 3 0;bale 5 1 4 0;bale 16 1 3 0;bale 4 1 3 0;bale 1 1 0 0;thumb 1");
        // of 5: 2, 2 and none of lot 3, 1 of lot 4
        e.due("lots(1, 5)", x.lots(1, 5), 8 + 16);
        e.due("lots(2, 5)", x.lots(2, 5), 8);
        e.due("lots(4, 5)", x.lots(4, 5), 8);
        e.due("lots(5, 5)", x.lots(5, 5), 0);
        e.due("lots(5, 4)", x.lots(5, 4), 8);
        e.due("lots(1, 1)", x.lots(1, 1), 1 + 8 + 16);
        e.due("12 of 2 each", Check.with(Check.times("bale 2 1 9 0", 12, ";")).lots(20, 1), 512);
        e.due("10 of 2 each", Check.with(Check.times("bale 2 1 9 0", 10, ";")).lots(20, 1), 512);
        e.due("9 of 2 each", Check.with(Check.times("bale 2 1 9 0", 9, ";")).lots(20, 1), 0);
        x.cut(0, 11);
        e.due("without one BALE", x.lots(4, 5), 0);
        e.due("without one BALE", x.lots(2, 5), 8);
    }

    @Sentence(promise = 20, says = "NONE without these.")
    static void noSuchSets(Edge e) {
        for (int n : new int[] {0, -1, MIN, MAX}) {
            e.answersNone(Edge::rich, "lots(" + n + ", 1)", x -> x.lots(n, 1));
            e.answersNone(Edge::rich, "lots(1, " + n + ")", x -> x.lots(1, n));
        }
        e.answersNone(Edge::rich, "lots(21, 1)", x -> x.lots(21, 1));
        e.answersNone(Edge::rich, "lots(1, 81)", x -> x.lots(1, 81));
        e.answersNone(ClothEnds::new, "lots(0, 1)", x -> x.lots(0, 1));
    }

    @Sentence(promise = 20, says = "SETS of k DROPS (1 to 20) of d EIGHTHS (1 to 80)")
    static void theGreatestSets(Edge e) {
        e.due("lots(20, 80)", Check.with(Check.times("bale 480 1 2 0", 4, ";")).lots(20, 80), 4);
        e.due("lots(20, 80)", Check.with(Check.times("bale 480 1 2 0", 3, ";")).lots(20, 80), 0);
        e.due("lots(1, 80)", Check.with("bale 80 1 2 0").lots(1, 80), 4);
        e.due("lots(20, 1)", Check.with("bale 20 1 2 0").lots(20, 1), 4);
        e.due("lots(1, 1)", Check.with("bale 1 1 2 0").lots(1, 1), 4);
    }

    // ---- promise 21: meet

    private static void dueMeet(Edge e, String shop, int k, int d, int taken, int lost) {
        ClothEnds x = Check.with(shop);
        e.due("meet(0, " + k + ", " + d + ", 0) of " + shop, x.meet(0, k, d, 0), taken);
        e.due("meet(0, " + k + ", " + d + ", 1) of " + shop, x.meet(0, k, d, 1), lost);
    }

    @Sentence(promise = 21, says = "from the begin of one DROP to that of the next one are as many whole stripes as d and "
        + "the thumb need")
    static void wholeStripes(Edge e) {
        dueMeet(e, "bale 99 1 0 6;thumb 2", 2, 4, 6 + 6, 4);
        dueMeet(e, "bale 99 1 0 6;thumb 2", 2, 3, 6 + 5, 5);
        dueMeet(e, "bale 99 1 0 6;thumb 2", 2, 5, 12 + 7, 9);
        dueMeet(e, "bale 99 1 0 6;thumb 2", 3, 10, 24 + 12, 6);
        dueMeet(e, "bale 99 1 0 6;thumb 2", 3, 11, 36 + 13, 16);
        dueMeet(e, "bale 99 1 0 6", 2, 6, 12, 0);
        dueMeet(e, "bale 99 1 0 6", 2, 7, 19, 5);
        dueMeet(e, "bale 99 1 0 6;thumb 1;askew 8", 2, 6, 12 + 7, 7);
        dueMeet(e, "bale 480 1 0 1;thumb 8", 20, 1, 180, 160);
        dueMeet(e, "bale 480 1 0 96;thumb 8", 2, 80, 184, 24);
        dueMeet(e, "bale 480 1 0 1", 6, 80, 480, 0);
        dueMeet(e, "bale 480 1 0 87;thumb 8", 2, 80, 174 + 88, 102);
        dueMeet(e, "bale 480 1 0 88;thumb 8", 2, 80, 88 + 88, 16);
        // one DROP has no step
        dueMeet(e, "bale 99 1 0 96;thumb 2", 1, 4, 6, 2);
    }

    @Sentence(promise = 21, says = "the last DROP and its thumb, or what there is of it")
    static void theLastThumb(Edge e) {
        dueMeet(e, "bale 12 1 0 6;thumb 2", 2, 4, 12, 4);
        dueMeet(e, "bale 11 1 0 6;thumb 2", 2, 4, 11, 3);
        dueMeet(e, "bale 10 1 0 6;thumb 2", 2, 4, 10, 2);
        dueMeet(e, "bale 9 1 0 6;thumb 2", 2, 4, -2, -2);
        dueMeet(e, "bale 13 1 0 6;thumb 2", 2, 4, 12, 4);
        dueMeet(e, "bale 5 1 0 1;thumb 8", 1, 5, 5, 0);
        dueMeet(e, "bale 6 1 0 1;thumb 8", 1, 5, 6, 1);
        dueMeet(e, "bale 13 1 0 1;thumb 8", 1, 5, 13, 8);
    }

    @Sentence(promise = 21, says = "-2: it has not so many")
    static void notSoMany(Edge e) {
        for (int what = 0; what < 2; what++) {
            int asked = what;
            e.answers(Edge::rich, "meet(0, 20, 80, " + what + ")", x -> x.meet(0, 20, 80, asked), -2);
            e.answers(Edge::rich, "meet(2, 1, 7, " + what + ")", x -> x.meet(2, 1, 7, asked), -2);
        }
        e.due("just so many", Edge.rich().meet(2, 1, 6, 0), 6);
        dueMeet(e, "bale 480 1 0 96", 5, 80, 464, 64);
        dueMeet(e, "bale 463 1 0 96", 5, 80, -2, -2);
        dueMeet(e, "bale 480 1 0 96", 6, 80, -2, -2);
        ClothEnds x = Check.with("bale 9 1 0 1");
        x.cut(0, 9);
        e.due("of nothing", x.meet(0, 1, 1, 0), -2);
    }

    @Sentence(promise = 21, says = "NONE without these (a BALE with a stripe).")
    static void noSuchMeeting(Edge e) {
        e.answersNone(Edge::rich, "without a stripe", x -> x.meet(1, 1, 1, 0));
        e.answersNone(Edge::rich, "without a stripe, not so many", x -> x.meet(1, 20, 80, 1));
        for (int bale : new int[] {-1, 4, 12, MIN, MAX}) {
            e.answersNone(Edge::rich, "meet(" + bale + ", 1, 1, 0)", x -> x.meet(bale, 1, 1, 0));
        }
        for (int k : new int[] {0, -1, 21, MIN, MAX}) {
            e.answersNone(Edge::rich, "meet(0, " + k + ", 1, 0)", x -> x.meet(0, k, 1, 0));
        }
        for (int d : new int[] {0, -1, 81, MIN, MAX}) {
            e.answersNone(Edge::rich, "meet(0, 1, " + d + ", 0)", x -> x.meet(0, 1, d, 0));
        }
        for (int what : new int[] {-1, 2, MIN, MAX}) {
            e.answersNone(Edge::rich, "meet(0, 1, 1, " + what + ")", x -> x.meet(0, 1, 1, what));
        }
        e.answersNone(ClothEnds::new, "meet(0, 1, 1, 0)", x -> x.meet(0, 1, 1, 0));
        dueMeet(e, "bale 480 1 0 1", 20, 24, 480, 0);
    }

    // ---- promise 22: seam

    private static void dueSeam(Edge e, String shop, int k, int d, int want) {
        e.due("seam(0, " + k + ", " + d + ") of " + shop, Check.with(shop).seam(0, k, d), want);
    }

    @Sentence(promise = 22, says = "each FLAW that lies in them is in the first or last EIGHTH of a DROP")
    static void firstOrLast(Edge e) {
        int[] of4 = {0, 1, 2, 0, 0, 1, 2, 0, 0, 0};
        for (int place = 0; place < of4.length; place++) {
            // behind 8 EIGHTHS nothing is asked of a FLAW, unless some are cut away
            dueSeam(e, "bale 20 1 0 0;bale 20 1 0 0;flaw 1 1;flaw 0 " + place, 2, 4, of4[place]);
        }
        dueSeam(e, "bale 20 1 0 0", 5, 4, 0);
        dueSeam(e, "bale 9 1 0 0;flaw 0 0;flaw 0 4;flaw 0 8", 9, 1, 0);
        dueSeam(e, "bale 8 1 0 0;flaw 0 0;flaw 0 3;flaw 0 5", 4, 2, 0);
        dueSeam(e, "bale 8 1 0 0;flaw 0 1", 1, 3, 1);
        dueSeam(e, "bale 8 1 0 0;flaw 0 3;flaw 0 4", 2, 4, 0);
        dueSeam(e, "bale 9 1 0 0;flaw 0 4;flaw 0 5;thumb 8", 2, 4, 1);
        dueSeam(e, "bale 480 1 0 0;flaw 0 479", 6, 80, 0);
        dueSeam(e, "bale 9 1 0 0;" + Check.times("flaw 0 3", 16, ";"), 1, 4, 0);
        ClothEnds x = Check.with("bale 20 1 0 0;bale 20 1 0 0;flaw 1 9;flaw 0 1;flaw 0 2");
        x.cut(0, 3);
        e.due("the FLAWS are gone", x.seam(0, 1, 9), 0);
        e.due("that of the other stays", x.seam(1, 1, 11), 9);
    }

    @Sentence(promise = 22, says = "of a BALE the least EIGHTHS (0 to d - 1) to be cut away first")
    static void atMostOneLessThanD(Edge e) {
        dueSeam(e, "bale 30 1 0 0;flaw 0 2;flaw 0 3", 1, 4, 3);
        dueSeam(e, "bale 30 1 0 0;flaw 0 2;flaw 0 3;flaw 0 4", 1, 4, -2);
        dueSeam(e, "bale 30 1 0 0;flaw 0 2;flaw 0 4", 1, 4, -2);
        dueSeam(e, "bale 159 1 0 0;flaw 0 78;flaw 0 77", 1, 80, 78);
        dueSeam(e, "bale 159 1 0 0;flaw 0 78;flaw 0 79", 1, 80, 79);
        dueSeam(e, "bale 160 1 0 0;flaw 0 78;flaw 0 80", 1, 80, -2);
        dueSeam(e, "bale 30 1 0 0;flaw 0 1", 3, 3, 1);
        dueSeam(e, "bale 30 1 0 0;flaw 0 1", 3, 2, 0);
        ClothEnds x = Check.with("bale 30 1 0 0;flaw 0 2;flaw 0 3");
        x.cut(0, 1);
        e.due("nearer by one", x.seam(0, 1, 4), 2);
        e.due("nothing is cut away by asking", x.bale(0, 0), 29);
    }

    @Sentence(promise = 22, says = "of k DROPS of d EIGHTHS, one directly behind the other (no thumb)")
    static void directlyBehind(Edge e) {
        dueSeam(e, "bale 20 1 0 0;thumb 8", 20, 1, 0);
        dueSeam(e, "bale 12 1 0 0;thumb 1;flaw 0 3;flaw 0 4;flaw 0 7;flaw 0 8", 3, 4, 0);
        dueSeam(e, "bale 12 1 0 0;thumb 1;flaw 0 5", 3, 4, -2);
        dueSeam(e, "bale 480 1 0 0;thumb 8", 6, 80, 0);
    }

    @Sentence(promise = 22, says = "-2: there is none (it has not so many EIGHTHS, too)")
    static void thereIsNone(Edge e) {
        dueSeam(e, "bale 8 1 0 0", 2, 4, 0);
        dueSeam(e, "bale 7 1 0 0", 2, 4, -2);
        dueSeam(e, "bale 8 1 0 0;flaw 0 1", 2, 4, -2);
        dueSeam(e, "bale 9 1 0 0;flaw 0 1", 2, 4, 1);
        dueSeam(e, "bale 80 1 0 0", 1, 80, 0);
        dueSeam(e, "bale 79 1 0 0", 1, 80, -2);
        dueSeam(e, "bale 480 1 0 0", 20, 25, -2);
        dueSeam(e, "bale 480 1 0 0", 20, 24, 0);
        e.answers(Edge::rich, "seam(0, 20, 80)", x -> x.seam(0, 20, 80), -2);
        ClothEnds x = Check.with("bale 9 1 0 0");
        x.cut(0, 9);
        e.due("of nothing", x.seam(0, 1, 1), -2);
    }

    @Sentence(promise = 22, says = "NONE without these.")
    static void noSuchSeam(Edge e) {
        for (int bale : new int[] {-1, 4, 12, MIN, MAX}) {
            e.answersNone(Edge::rich, "seam(" + bale + ", 1, 1)", x -> x.seam(bale, 1, 1));
        }
        for (int k : new int[] {0, -1, 21, MIN, MAX}) {
            e.answersNone(Edge::rich, "seam(0, " + k + ", 1)", x -> x.seam(0, k, 1));
        }
        for (int d : new int[] {0, -1, 81, MIN, MAX}) {
            e.answersNone(Edge::rich, "seam(0, 1, " + d + ")", x -> x.seam(0, 1, d));
        }
        e.answersNone(ClothEnds::new, "seam(0, 1, 1)", x -> x.seam(0, 1, 1));
    }
}
