/** Promises 15 to 18: known, all, weight, which. */
public final class KnownTest {
    private static final Check check = new Check("KnownTest");

    public static void main(String[] args) {
        told();
        mostSold();
        fewestBales();
        leastLost();
        bounds();
        weights();
        which();
        whichOfThree();
        whichRefuses();
        whichWithout();
        check.done();
    }

    private static ClothEnds known(String shop, int... orders) {
        ClothEnds x = Check.with(shop);
        for (int order : orders) {
            x.known(order);
        }
        check.due("KNOWN ORDERS", x.count(11), orders.length);
        return x;
    }

    private static void dueAll(ClothEnds x, int... want) {
        for (int what = 0; what < want.length; what++) {
            check.due("all(" + what + ")", x.all(what), want[what]);
        }
    }

    private static void told() {
        ClothEnds x = new ClothEnds();
        check.due("known(0)", x.known(0), 0);
        check.due("known(481)", x.known(481), -2);
        check.due("known(-1)", x.known(-1), -2);
        check.due("status(0)", x.status(0), 2);
        for (int i = 1; i <= 9; i++) {
            check.due("known", x.known(i == 1 ? 480 : i), i);
        }
        check.due("a tenth", x.known(1), -2);
        check.due("status(2)", x.status(2), 1);
        check.due("untold, ahead of no room", x.known(500), -2);
        check.due("status(0)", x.status(0), 3);
        check.due("count(11)", x.count(11), 9);
        dueAll(x, 0, 0, 0, 0);
        check.due("known(0)", x.known(0), 0);
        check.due("count(11)", x.count(11), 0);
        check.due("known(1)", x.known(1), 1);
        check.due("all(4)", x.all(4), -1);
        check.due("all(-1)", x.all(-1), -1);
        check.due("status(0)", x.status(0), 3);
    }

    private static void mostSold() {
        dueAll(known("bale 10 1 0 0;bale 7 1 0 0", 6, 4, 7), 17, 2, 0, 17);
        dueAll(known("bale 10 1 0 0;bale 7 1 0 0;thumb 1", 6, 4, 7), 13, 2, 1, 17);
        dueAll(known("bale 10 1 0 0", 11), 0, 0, 0, 10);
        dueAll(known("bale 10 1 0 0", 8, 5, 5), 10, 1, 0, 10);
        dueAll(known("bale 10 1 0 0;thumb 8", 1, 1, 1, 1, 1, 1, 1, 1, 1), 2, 1, 8, 9);
        dueAll(known("bale 90 1 0 0;bale 9 1 0 0", 10, 10, 10, 10, 10, 10, 10, 10, 10), 90, 1, 0, 90);
    }

    private static void fewestBales() {
        dueAll(known("bale 5 1 0 0;bale 5 1 0 0;bale 30 1 0 0;thumb 2", 5, 5), 10, 1, 4, 10);
        dueAll(known("bale 5 1 0 0;bale 5 1 0 0;bale 11 1 0 0;thumb 2", 5, 5), 10, 2, 0, 10);
        dueAll(known("bale 5 1 0 0;bale 5 1 0 0;bale 12 1 0 0;thumb 2", 5, 5), 10, 1, 2, 10);
    }

    private static void leastLost() {
        dueAll(known("bale 9 1 0 0;bale 6 1 0 0;bale 5 1 0 0;thumb 2", 5), 5, 1, 0, 5);
        dueAll(known("bale 9 1 0 0;bale 6 1 0 0;thumb 2", 5), 5, 1, 1, 5);
        dueAll(known("bale 9 1 0 0;bale 7 1 0 0;thumb 2", 5), 5, 1, 2, 5);
        dueAll(known("bale 9 1 0 0;bale 7 1 0 0;thumb 2", 5, 6), 11, 2, 3, 11);
        // of one BALE: 6, or twice 3
        dueAll(known("bale 8 1 0 0;thumb 1", 3, 3, 6), 6, 1, 1, 8);
        dueAll(known("bale 8 1 0 0;thumb 1", 6, 3, 3), 6, 1, 1, 8);
        dueAll(known("bale 3 1 0 0;bale 3 1 0 0;bale 6 1 0 0", 3, 3, 6), 12, 3, 0, 12);
        dueAll(known("bale 1 1 0 0", 1, 1), 1, 1, 0, 1);
    }

    private static void bounds() {
        ClothEnds x = known("bale 9 1 0 0;bale 7 1 0 0;thumb 2", 5, 6, 200);
        dueAll(x, 11, 2, 3, 16);
        x.cut(0, 9);
        dueAll(x, 6, 1, 1, 7);
        check.due("nothing is CUT", x.count(7), 7);
        check.due("SOLD", x.count(2), 9);
        x.known(0);
        dueAll(x, 0, 0, 0, 0);
    }

    private static void weights() {
        ClothEnds x = new ClothEnds();
        check.due("weight(1, 9)", x.weight(1, 9), 0);
        check.due("weight(8, 4)", x.weight(8, 4), 0);
        check.due("weight(1, 0)", x.weight(1, 0), 9);
        check.due("weight(1, 3)", x.weight(1, 3), 0);
        check.due("weight(8, 4)", x.weight(8, 4), 4);
        int[][] wrong = {{0, 1}, {9, 1}, {-1, 1}, {1, 10}, {1, -1}, {Integer.MAX_VALUE, 0}};
        for (int i = 0; i < wrong.length; i++) {
            check.due("weight", x.weight(wrong[i][0], wrong[i][1]), -2);
            check.due("status(0)", x.status(0), i + 1);
        }
        check.due("weight(1, 1)", x.weight(1, 1), 3);
    }

    private static ClothEnds weighed(String shop, int... weights) {
        ClothEnds x = Check.with(shop);
        for (int i = 0; i < weights.length; i++) {
            x.weight(i + 1, weights[i]);
        }
        return x;
    }

    private static void dueWhich(ClothEnds x, int order, int n, long... want) {
        for (int what = 0; what < 3; what++) {
            check.due("which(" + order + ", " + n + ", " + what + ")", x.which(order, n, what), want[what]);
        }
    }

    private static void which() {
        ClothEnds x = weighed("bale 3 1 0 0;bale 5 1 0 0", 0, 0, 1, 0, 1);
        dueWhich(x, 3, 0, 0, 3, 1);
        dueWhich(x, 3, 1, 0, 7, 1);
        dueWhich(x, 5, 1, 1, 13, 2);
        // of 3 and 3, 3 and 5, 5 and 3, 5 and 5: 6, 8, 8, 5
        dueWhich(x, 6, 2, -1, 27, 4);
        dueWhich(x, 480, 1, -1, 4, 1);
        ClothEnds y = weighed("bale 4 1 0 0;bale 40 1 0 0;bale 8 1 0 0;bale 4 1 0 0;thumb 1", 1);
        y.cut(0, 4);
        dueWhich(y, 4, 4, 1, 8, 1);
        check.due("which, as the BALE is told", y.which(40, 0, 0), 1);
        ClothEnds z = weighed("bale 1 1 0 0;bale 40 1 0 0;bale 40 1 0 0", 9, 9, 9, 9, 9, 9, 9, 9);
        dueWhich(z, 40, 4, 1, 58, 1);
        ClothEnds v = weighed("bale 4 1 0 0", 2, 0, 0, 1);
        // kept for the second: 4 by 1 of 3 and 1 by 2 of 3
        dueWhich(v, 3, 1, 0, 11, 3);
        ClothEnds w = Check.with("bale 4 1 0 0");
        w.cut(0, 4);
        w.weight(1, 1);
        dueWhich(w, 1, 4, -1, 0, 1);
    }

    /** Of three BALES, by reckoning on paper. */
    private static void whichOfThree() {
        // 1 or 5: of 1 the fourth is 1 + 3, of 5 it is 5 + 1 / 2
        dueWhich(weighed("bale 1 1 0 0;bale 1 1 0 0;bale 5 1 0 0", 1, 0, 0, 0, 1), 480, 2, -1, 19, 4);
        dueWhich(weighed("bale 1 1 0 0;bale 5 1 0 0;bale 1 1 0 0", 1, 0, 0, 0, 1), 480, 2, -1, 19, 4);
        dueWhich(weighed("bale 5 1 0 0;bale 1 1 0 0;bale 1 1 0 0", 1, 0, 0, 0, 1), 480, 2, -1, 19, 4);
        dueWhich(weighed("bale 3 1 0 0;thumb 2", 1), 3, 1, 0, 3, 1);
        dueWhich(weighed("bale 3 1 0 0;thumb 2", 1), 1, 3, 0, 1, 1);
        dueWhich(weighed("bale 4 1 0 0;thumb 2", 1), 1, 3, 0, 2, 1);
        ClothEnds x = weighed("bale 40 1 0 0;bale 40 1 0 0;bale 40 1 0 0", 1);
        dueWhich(x, 40, 4, 0, 44, 1);
        Check.shop(x, "bale 2 1 0 0");
        x.weight(2, 9);
        dueWhich(x, 3, 4, -1, 2, 1);
    }

    /** Refusing can be best, and stands behind a CUT that is as good. */
    private static void whichRefuses() {
        ClothEnds x = weighed("bale 8 1 0 0", 0, 0, 0, 0, 0, 0, 0, 1);
        dueWhich(x, 1, 1, -1, 8, 1);
        dueWhich(x, 8, 1, 0, 8, 1);
        // of 1 or 8, where a 1 takes all: 9 / 2, then 25 / 4, then 57 / 8
        dueWhich(weighed("bale 8 1 0 0;thumb 8", 1, 0, 0, 0, 0, 0, 0, 1), 480, 3, -1, 57, 8);
        ClothEnds y = weighed("bale 9 1 0 0;bale 9 1 0 0;thumb 8", 1);
        dueWhich(y, 1, 1, 0, 2, 1);
        ClothEnds z = weighed("bale 9 1 0 0;bale 9 1 0 0;thumb 8", 0, 1);
        dueWhich(z, 2, 2, 0, 4, 1);
    }

    private static void whichWithout() {
        ClothEnds x = weighed("bale 4 1 0 0", 2);
        int[][] wrong = {{0, 1, 0}, {481, 1, 0}, {-1, 1, 0}, {1, -1, 0}, {1, 5, 0}, {1, 1, 3}, {1, 1, -1}};
        for (int[] w : wrong) {
            check.due("which", x.which(w[0], w[1], w[2]), -2);
        }
        check.due("a BALE of 41", weighed("bale 41 1 0 0", 1).which(1, 0, 0), -2);
        check.due("a BALE of 40", weighed("bale 40 1 0 0", 1).which(1, 0, 0), 0);
        ClothEnds y = weighed("bale 4 1 0 0;bale 4 1 0 0;bale 4 1 0 0;bale 4 1 0 0", 1);
        check.due("four BALES", y.which(1, 0, 0), -2);
        y.cut(1, 4);
        check.due("three that have something", y.which(1, 0, 0), 0);
        y.weight(1, 0);
        check.due("no WEIGHTS", y.which(1, 0, 1), -2);
        check.due("STATUS", x.status(0) + y.status(0) + y.status(1), 0);
        ClothEnds z = new ClothEnds();
        z.weight(8, 9);
        dueWhich(z, 1, 4, -1, 0, 1);
    }
}
