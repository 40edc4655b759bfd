/** Promises 6 to 11: bale, cut, tear, basket, ends, out. */
public final class BaleTest {
    private static final Check check = new Check("BaleTest");

    public static void main(String[] args) {
        bales();
        cuts();
        tears();
        refusedCuts();
        baskets();
        fullBasket();
        outs();
        fullOuts();
        shortEnds();
        check.done();
    }

    private static void dueBale(ClothEnds x, int bale, int... want) {
        for (int what = 0; what < want.length; what++) {
            check.due("bale(" + bale + ", " + what + ")", x.bale(bale, what), want[what]);
        }
    }

    private static void bales() {
        ClothEnds x = Check.with("bale 30 36 1 5;bale 3 54 9 0;bale 4 1 0 96;flaw 0 29;flaw 0 7;flaw 0 7;board 3");
        dueBale(x, 0, 30, 36, 1, 5, 3, 7, 0);
        dueBale(x, 1, 3, 54, 9, 0, 0, -1, 1);
        dueBale(x, 2, 4, 1, 0, 96, 0, -1, 0);
        check.due("bale(0, 7)", x.bale(0, 7), -1);
        check.due("bale(0, -1)", x.bale(0, -1), -1);
        check.due("bale(3, 0)", x.bale(3, 0), -1);
        check.due("bale(-1, 0)", x.bale(-1, 0), -1);
        check.due("bale(max, 0)", x.bale(Integer.MAX_VALUE, 0), -1);
        check.due("STATUS", x.status(0), 0);
    }

    private static void cuts() {
        ClothEnds x = Check.with("bale 30 36 1 5;bale 30 1 1 1;thumb 2;askew 5;board 8;"
            + "flaw 0 0;flaw 0 3;flaw 1 3;flaw 0 4;flaw 0 6;flaw 0 29");
        check.due("cut(0, 4)", x.cut(0, 4), 2);
        dueBale(x, 0, 24, 36, 1, 5, 2, 0, 0);
        dueBale(x, 1, 30, 1, 1, 1, 1, 3, 0);
        check.due("SOLD", x.count(2), 4);
        check.due("LOST", x.count(3), 2);
        check.due("cut(0, 14)", x.cut(0, 14), 1);
        dueBale(x, 0, 8, 36, 1, 5, 1, 7, 1);
        check.due("cut(0, 7), the thumb is short", x.cut(0, 7), 0);
        dueBale(x, 0, 0, 36, 1, 5, 0, -1, 0);
        check.due("SOLD", x.count(2), 25);
        check.due("LOST", x.count(3), 5);
        check.due("left", x.count(7), 30);
        check.due("cut all", x.cut(1, 30), 1);
        check.due("LOST", x.count(3), 5);
        check.due("left", x.count(7), 0);
        ClothEnds y = Check.with("bale 480 1 1 1");
        check.due("cut(0, 480)", y.cut(0, 480), 0);
        check.due("SOLD", y.count(2), 480);
    }

    private static void tears() {
        ClothEnds x = Check.with("bale 20 36 1 5;thumb 2;askew 5;flaw 0 3;flaw 0 4;flaw 0 8;flaw 0 9");
        check.due("tear(0, 4)", x.tear(0, 4), 1);
        dueBale(x, 0, 11, 36, 1, 5, 1, 0, 0);
        check.due("SOLD", x.count(2), 4);
        check.due("LOST", x.count(3), 5);
        check.due("tear(0, 12)", x.tear(0, 12), -2);
        check.due("tear(0, 10)", x.tear(0, 10), 1);
        check.due("LOST", x.count(3), 6);
        check.due("left", x.count(7), 0);
        ClothEnds y = Check.with("bale 20 36 1 5;thumb 2");
        check.due("tear without askew", y.tear(0, 5), 0);
        check.due("LOST", y.count(3), 0);
    }

    private static void refusedCuts() {
        ClothEnds x = Check.with("bale 480 36 1 5;bale 5 1 1 1");
        int[][] untold = {{-1, 1}, {2, 1}, {0, 0}, {0, -1}, {0, 481}, {1, 481}, {5, 481}, {0, Integer.MIN_VALUE}};
        for (int i = 0; i < untold.length; i++) {
            check.due("cut", x.cut(untold[i][0], untold[i][1]), -2);
            check.due("tear", x.tear(untold[i][0], untold[i][1]), -2);
            check.due("status(0)", x.status(0), 2 * i + 2);
            check.due("status(1)", x.status(1), 0);
        }
        check.due("cut(1, 6)", x.cut(1, 6), -2);
        check.due("status(1)", x.status(1), 1);
        check.due("tear(1, 480)", x.tear(1, 480), -2);
        check.due("status(1)", x.status(1), 2);
        check.due("status(2)", x.status(2), 0);
        check.due("left", x.count(7), 485);
        check.due("SOLD and LOST", x.count(2) + x.count(3), 0);
    }

    private static void dueEnd(ClothEnds x, int end, int... want) {
        for (int what = 0; what < want.length; what++) {
            check.due("ends(" + end + ", " + what + ")", x.ends(end, what), want[what]);
        }
    }

    private static void baskets() {
        ClothEnds x = Check.with("bale 5 36 1 5;bale 6 54 9 0;bale 4 1 0 7;flaw 0 0;flaw 2 1;flaw 0 4;board 5");
        check.due("no END", x.basket(1), -2);
        check.due("status(1)", x.status(1), 1);
        check.due("no BALE", x.basket(3), -2);
        check.due("no BALE", x.basket(-1), -2);
        check.due("status(0)", x.status(0), 2);
        check.due("basket(2)", x.basket(2), 1);
        check.due("basket(0)", x.basket(0), 2);
        check.due("count(6)", x.count(6), 2);
        dueEnd(x, 0, 4, 1, 0, 1, -1);
        dueEnd(x, 1, 5, 36, 1, 2, -1);
        dueEnd(x, 2, -1, -1, -1, -1);
        check.due("ends(0, -1)", x.ends(0, -1), -1);
        check.due("ends(-1, 0)", x.ends(-1, 0), -1);
        dueBale(x, 0, 0, 36, 1, 5, 0, -1, 0);
        dueBale(x, 2, 0, 1, 0, 7, 0, -1, 0);
        check.due("left", x.count(7), 6);
        check.due("SOLD, LOST and GIVEN", x.count(2) + x.count(3) + x.count(4), 0);
        check.due("nothing is no END", x.basket(0), -2);
        check.due("status(1)", x.status(1), 2);
        x.cut(1, 1);
        check.due("basket(1)", x.basket(1), 3);
        dueEnd(x, 2, 5, 54, 9, 0);
        ClothEnds y = Check.with("bale 1 1 1 1");
        check.due("without a board", y.basket(0), -2);
        check.due("status(1)", y.status(1), 1);
    }

    private static void fullBasket() {
        ClothEnds x = Check.with(Check.times("bale 3 1 1 1", 12, ";") + ";board 3");
        for (int i = 0; i < 10; i++) {
            check.due("basket", x.basket(i), i + 1);
        }
        check.due("an eleventh", x.basket(10), -2);
        check.due("status(2)", x.status(2), 1);
        check.due("it stays", x.bale(10, 0), 3);
        check.due("no END, ahead of no room", x.basket(0), -2);
        check.due("status(1)", x.status(1), 1);
        check.due("no BALE, ahead of no room", x.basket(12), -2);
        check.due("status(0)", x.status(0), 1);
        check.due("out", x.out(9), 3);
        check.due("room again", x.basket(11), 10);
        check.due("status(2)", x.status(2), 1);
    }

    private static void outs() {
        ClothEnds x = Check.with("bale 5 36 1 5;bale 6 54 9 0;bale 4 1 0 7;flaw 0 0;flaw 2 1;flaw 0 4;board 80");
        x.basket(0);
        x.basket(1);
        x.basket(2);
        check.due("out(3)", x.out(3), -2);
        check.due("out(-1)", x.out(-1), -2);
        check.due("status(0)", x.status(0), 2);
        check.due("out(1)", x.out(1), 6);
        check.due("count(6)", x.count(6), 2);
        dueEnd(x, 0, 5, 36, 1, 2);
        dueEnd(x, 1, 4, 1, 0, 1);
        dueEnd(x, 2, -1);
        check.due("out(0)", x.out(0), 5);
        dueEnd(x, 0, 4, 1, 0, 1);
        check.due("out(0)", x.out(0), 4);
        check.due("out(0)", x.out(0), -2);
        check.due("status(0)", x.status(0), 3);
        check.due("no EIGHTHS of a CUT", x.count(2), 0);
    }

    private static void fullOuts() {
        StringBuilder shop = new StringBuilder("board 80");
        for (int i = 0; i < 10; i++) {
            shop.append(";bale ").append(10 + i).append(' ').append(30 + i).append(' ').append(i).append(" 1");
        }
        ClothEnds x = Check.with(shop + ";flaw 3 3;flaw 9 1;flaw 9 2");
        for (int i = 0; i < 10; i++) {
            x.basket(i);
        }
        check.due("out(2)", x.out(2), 12);
        for (int i = 0; i < 9; i++) {
            int was = i < 2 ? i : i + 1;
            dueEnd(x, i, 10 + was, 30 + was, was, was == 3 ? 1 : was == 9 ? 2 : 0);
        }
        check.due("out(8)", x.out(8), 19);
        check.due("out(8)", x.out(8), -2);
        check.due("out(0)", x.out(0), 10);
        dueEnd(x, 6, 18, 38, 8, 0);
        dueEnd(x, 7, -1);
    }

    private static void shortEnds() {
        ClothEnds x = Check.with("bale 80 1 1 1;bale 1 1 1 1;board 80;flaw 1 0");
        dueBale(x, 1, 1, 1, 1, 1, 1, 0, 1);
        check.due("an END of 80", x.basket(0), 1);
        check.due("an END of 1", x.basket(1), 2);
        dueEnd(x, 0, 80, 1, 1, 0);
        dueEnd(x, 1, 1, 1, 1, 1);
        ClothEnds y = Check.with("bale 81 1 1 1;bale 2 1 1 1;board 1");
        check.due("no END of 2", y.basket(1), -2);
        y.cut(1, 1);
        check.due("an END of 1", y.basket(1), 1);
    }
}
