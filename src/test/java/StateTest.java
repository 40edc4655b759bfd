/** Promises 31 to 35: seed, status, count, image, back. */
public final class StateTest {
    private static final Check check = new Check("StateTest");

    public static void main(String[] args) {
        seeds();
        statuses();
        counts();
        wrongImages();
        allOfAnImage();
        whatStays();
        check.done();
    }

    private static void seeds() {
        ClothEnds x = new ClothEnds();
        check.due("seed(5)", x.seed(5), 0);
        check.due("seed(max)", x.seed(2147483647), 5);
        check.due("count(9)", x.count(9), 2147483647);
        check.due("seed(-1)", x.seed(-1), -2);
        check.due("seed(min)", x.seed(Integer.MIN_VALUE), -2);
        check.due("status(0)", x.status(0), 2);
        check.due("seed(0)", x.seed(0), 2147483647);
        check.due("seed(0)", x.seed(0), 0);
    }

    private static void statuses() {
        ClothEnds x = Check.with("bale 5 1 1 1");
        x.cut(3, 1);
        x.cut(0, 6);
        x.cut(0, 7);
        for (int i = 0; i < 12; i++) {
            x.known(1);
        }
        check.due("status(0)", x.status(0), 1);
        check.due("status(1)", x.status(1), 2);
        check.due("status(2)", x.status(2), 3);
        check.due("status(3)", x.status(3), -1);
        check.due("status(-1)", x.status(-1), -1);
        check.due("status(0)", x.status(0), 1);
    }

    private static void counts() {
        ClothEnds x = Check.with("bale 30 1 1 1;bale 9 1 1 1;bale 4 1 1 1;thumb 2;askew 3;board 9");
        Check.rule(x, "from 0-left;give 1=1");
        Check.rule(x, "from 0");
        x.seed(77);
        x.serve(0, 22);
        x.serve(0, 40);
        x.basket(1);
        x.known(1);
        x.known(1);
        x.entry(1, 1);
        x.entry(1, 1);
        x.entry(1, 1);
        x.level(1, 1);
        x.feed(0, 0, 0, 0, 0);
        x.end(11);
        int[] want = {3, 2, 22, 2, 6, 1, 1, 4, 0, 77, 11, 2, 3, 1, 2, 3, 9};
        for (int what = 0; what < want.length; what++) {
            check.due("count(" + what + ")", x.count(what), want[what]);
        }
        check.due("count(17)", x.count(17), -1);
        check.due("count(-1)", x.count(-1), -1);
        x.day(1, 1, 1);
        check.due("count(8)", x.count(8), 1);
    }

    private static void wrongImages() {
        ClothEnds x = new ClothEnds();
        check.due("image(4)", x.image(4), -2);
        check.due("image(-1)", x.image(-1), -2);
        check.due("back(4)", x.back(4), -2);
        check.due("back(-1)", x.back(-1), -2);
        check.due("back(0), never made", x.back(0), -2);
        check.due("status(0)", x.status(0), 5);
        check.due("image(0)", x.image(0), 0);
        check.due("back(0)", x.back(0), 0);
        check.due("back(3), never made", x.back(3), -2);
        check.due("status(0)", x.status(0), 6);
    }

    /** Everything that can be asked of a state, as one number. */
    private static long all(ClothEnds x) {
        long sum = 0;
        for (int what : new int[] {0, 2, 3, 4, 5, 6, 7, 8, 9, 11, 12, 13, 14, 15, 16}) {
            sum = sum * 31 + x.count(what);
        }
        for (int i = 0; i < 4; i++) {
            for (int what = 0; what < 7; what++) {
                sum = sum * 31 + x.bale(i, what);
                sum = sum * 31 + x.ends(i, what);
            }
        }
        for (int clerk = 0; clerk < 4; clerk++) {
            sum = sum * 31 + x.rod(clerk, 0) * 10 + x.rod(clerk, 1);
        }
        for (int what = 0; what < 4; what++) {
            sum = sum * 31 + x.all(what);
        }
        sum = sum * 31 + x.which(3, 2, 1);
        sum = sum * 31 + x.sale(30, 3, 10, 0);
        sum = sum * 31 + x.madeOf(9, 9, 0);
        return sum * 31 + x.made();
    }

    private static void change(ClothEnds x) {
        x.cut(0, 3);
        x.tear(1, 2);
        x.basket(2);
        x.out(0);
        x.serve(0, 2);
        x.day(0, 3, 3);
        x.known(0);
        x.known(6);
        x.known(2);
        x.weight(2, 5);
        x.weight(8, 1);
        x.level(0, 0);
        x.level(9, 2);
        x.level(2, 99);
        x.entry(-1, 0);
        x.entry(1, 64);
        x.entry(5, 64);
        x.entry(0, 128);
        x.seed(99);
    }

    private static void allOfAnImage() {
        ClothEnds x = Check.with("bale 30 9 1 3;bale 20 8 2 0;bale 6 7 3 2;bale 5 6 4 0;flaw 0 9;flaw 1 9;flaw 3 2;"
            + "thumb 1;askew 2;board 6;form 2 5 4;form 3 9 9;pair 4 30");
        Check.rule(x, "from 0-left;give rest<4");
        x.weight(3, 1);
        x.basket(3);
        x.known(4);
        x.level(3, 4);
        x.entry(2, 128);
        x.day(0, 2, 5);
        long[] was = new long[4];
        for (int k = 0; k < 4; k++) {
            was[k] = all(x);
            check.due("image", x.image(k), k + 1);
            change(x);
        }
        check.holds("the images differ", was[0] != was[1] && was[1] != was[2] && was[2] != was[3]);
        Check.shop(x, "bale 9 1 1 1;thumb 4;form 1 1 1");
        for (int k : new int[] {2, 0, 3, 1, 1}) {
            check.due("back", x.back(k), k + 1);
            check.due("all of image " + k, all(x), was[k]);
            change(x);
        }
        check.due("image(0) anew", x.image(0), 3);
        long anew = all(x);
        x.back(3);
        check.due("back(0)", x.back(0), 3);
        check.due("all of it", all(x), anew);
    }

    private static void whatStays() {
        ClothEnds x = Check.with("bale 30 9 1 3");
        Check.rule(x, "from 1");
        x.image(1);
        Check.rule(x, "from 0 if width=9");
        x.cut(5, 5);
        x.cut(0, 99);
        x.feed(0, 0, 0, 0, 0);
        check.due("back", x.back(1), 0);
        check.due("RULES", x.count(1), 2);
        check.due("the TAPE", x.count(10), 20);
        check.due("status(0)", x.status(0), 1);
        check.due("status(1)", x.status(1), 1);
        check.due("the second RULE", x.serve(1, 3), 0);
    }
}
