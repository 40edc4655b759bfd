/** Promises 19 to 22: drops, lots, meet, seam. */
public final class DropsTest {
    private static final Check check = new Check("DropsTest");

    public static void main(String[] args) {
        drops();
        lots();
        meet();
        seam();
        check.done();
    }

    private static void drops() {
        ClothEnds x = Check.with("bale 20 1 0 0;bale 480 1 0 0;thumb 2");
        check.due("drops(0, 4)", x.drops(0, 4), 3);
        check.due("the last thumb is short", x.drops(0, 20), 1);
        check.due("18 = 8 + 2 + 8", x.drops(0, 9), 2);
        check.due("drops(0, 21)", x.drops(0, 21), 0);
        check.due("at most 20", x.drops(1, 1), 20);
        check.due("drops(1, 80)", x.drops(1, 80), 5);
        check.due("drops(1, 23)", x.drops(1, 23), 19);
        check.due("d 0", x.drops(0, 0), -1);
        check.due("d 81", x.drops(0, 81), -1);
        check.due("no BALE", x.drops(2, 1), -1);
        check.due("no BALE", x.drops(-1, 1), -1);
        x.cut(0, 20);
        check.due("nothing left", x.drops(0, 1), 0);
        check.due("without a thumb", Check.with("bale 20 1 0 0").drops(0, 4), 5);
        check.due("STATUS", x.status(0), 0);
    }

    private static void lots() {
        ClothEnds x = Check.with("bale 20 1 0 0;bale 9 1 9 0;bale 20 1 0 0;bale 5 1 3 0;thumb 2");
        check.due("lots(1, 5)", x.lots(1, 5), 1 | 1 << 3 | 1 << 9);
        check.due("lots(1, 6)", x.lots(1, 6), 1 | 1 << 9);
        check.due("lots(6, 4)", x.lots(6, 4), 1);
        check.due("lots(7, 4)", x.lots(7, 4), 0);
        check.due("lots(4, 8)", x.lots(4, 8), 1);
        check.due("lots(3, 10)", x.lots(3, 10), 0);
        check.due("lots(20, 1)", x.lots(20, 1), 0);
        check.due("lots(14, 1)", x.lots(14, 1), 1);
        check.due("20 of a BALE", Check.with("bale 480 1 7 0").lots(20, 24), 1 << 7);
        int[][] wrong = {{0, 1}, {21, 1}, {1, 0}, {1, 81}, {-1, 1}, {1, -1}};
        for (int[] w : wrong) {
            check.due("lots", x.lots(w[0], w[1]), -1);
        }
    }

    private static void dueMeet(ClothEnds x, int bale, int k, int d, int taken, int lost) {
        check.due("meet(" + bale + ", " + k + ", " + d + ", 0)", x.meet(bale, k, d, 0), taken);
        check.due("meet(" + bale + ", " + k + ", " + d + ", 1)", x.meet(bale, k, d, 1), lost);
    }

    private static void meet() {
        ClothEnds x = Check.with("bale 30 1 0 6;bale 30 1 0 0;bale 30 1 0 1;bale 30 1 0 96;thumb 2");
        dueMeet(x, 0, 3, 4, 18, 6);
        dueMeet(x, 0, 1, 4, 6, 2);
        dueMeet(x, 0, 2, 5, 19, 9);
        dueMeet(x, 0, 3, 5, 30, 15);
        dueMeet(x, 0, 3, 6, 30, 12);
        dueMeet(x, 0, 3, 7, -2, -2);
        dueMeet(x, 0, 1, 30, 30, 0);
        dueMeet(x, 0, 1, 29, 30, 1);
        dueMeet(x, 0, 1, 31, -2, -2);
        dueMeet(x, 2, 5, 4, 30, 10);
        dueMeet(x, 2, 6, 4, -2, -2);
        dueMeet(x, 2, 10, 1, 30, 20);
        dueMeet(x, 3, 1, 4, 6, 2);
        dueMeet(x, 3, 2, 4, -2, -2);
        dueMeet(x, 1, 1, 1, -1, -1);
        dueMeet(x, 4, 1, 1, -1, -1);
        dueMeet(x, -1, 1, 1, -1, -1);
        dueMeet(x, 0, 0, 1, -1, -1);
        dueMeet(x, 0, 21, 1, -1, -1);
        dueMeet(x, 0, 1, 0, -1, -1);
        dueMeet(x, 0, 1, 81, -1, -1);
        check.due("what 2", x.meet(0, 1, 1, 2), -1);
        check.due("what -1", x.meet(0, 1, 1, -1), -1);
        check.due("STATUS", x.status(0) + x.status(1), 0);
        check.due("nothing is CUT", x.count(7), 120);
        dueMeet(Check.with("bale 480 1 0 96"), 0, 5, 80, 464, 64);
        dueMeet(Check.with("bale 480 1 0 1"), 0, 6, 80, 480, 0);
    }

    private static void seam() {
        ClothEnds x = Check.with("bale 15 1 0 0;bale 40 1 0 0;flaw 0 3;flaw 0 8;flaw 1 39;thumb 8");
        check.due("3 and 8 of 4s", x.seam(0, 3, 4), 0);
        check.due("seam(0, 2, 5)", x.seam(0, 2, 5), 3);
        check.due("seam(0, 3, 5)", x.seam(0, 3, 5), -2);
        check.due("seam(0, 1, 3)", x.seam(0, 1, 3), 0);
        check.due("seam(0, 1, 4)", x.seam(0, 1, 4), 0);
        check.due("seam(0, 1, 5)", x.seam(0, 1, 5), 3);
        check.due("d 1", x.seam(0, 15, 1), 0);
        check.due("not so many", x.seam(0, 16, 1), -2);
        check.due("d 2", x.seam(0, 7, 2), 0);
        check.due("all of it", x.seam(1, 1, 40), 0);
        check.due("without the FLAW", x.seam(1, 3, 13), 0);
        check.due("ends with the FLAW", x.seam(1, 20, 2), 0);
        check.due("too many", x.seam(1, 20, 3), -2);
        check.due("no BALE", x.seam(2, 1, 1), -1);
        check.due("no BALE", x.seam(-1, 1, 1), -1);
        int[][] wrong = {{0, 1}, {21, 1}, {1, 0}, {1, 81}};
        for (int[] w : wrong) {
            check.due("seam", x.seam(0, w[0], w[1]), -1);
        }
        ClothEnds y = Check.with("bale 12 1 0 0;flaw 0 1;flaw 0 2;flaw 0 3");
        check.due("none", y.seam(0, 3, 4), -2);
        check.due("two of 4", y.seam(0, 2, 4), 3);
        y.cut(0, 1);
        check.due("nearer by one", y.seam(0, 2, 4), 2);
        check.due("4 are too many to be cut away", Check.with("bale 12 1 0 0;flaw 0 2;flaw 0 4").seam(0, 1, 4), -2);
        check.due("3 are not", Check.with("bale 12 1 0 0;flaw 0 2;flaw 0 3").seam(0, 1, 4), 3);
        check.due("STATUS", x.status(0) + x.status(1), 0);
    }
}
