/** Promises 26 to 30: level, sale, roll, entry, rod. */
public final class SaleTest {
    private static final Check check = new Check("SaleTest");

    public static void main(String[] args) {
        levels();
        sales();
        wrongSales();
        rolls();
        entries();
        rods();
        check.done();
    }

    private static void levels() {
        ClothEnds x = new ClothEnds();
        int[][] wrong = {{-1, 5}, {100, 5}, {5, -1}, {5, 100}};
        for (int i = 0; i < wrong.length; i++) {
            check.due("level", x.level(wrong[i][0], wrong[i][1]), -2);
            check.due("status(0)", x.status(0), i + 1);
        }
        for (int i = 1; i <= 5; i++) {
            check.due("level", x.level(i == 1 ? 99 : i, i == 1 ? 99 : 0), i);
        }
        check.due("a sixth", x.level(1, 1), -2);
        check.due("status(2)", x.status(2), 1);
        check.due("untold, ahead of no room", x.level(100, 1), -2);
        check.due("status(0)", x.status(0), 5);
        check.due("count(13)", x.count(13), 5);
        check.due("level(0, 500)", x.level(0, 500), 0);
        check.due("count(13)", x.count(13), 0);
        check.due("level(1, 1)", x.level(1, 1), 1);
    }

    private static ClothEnds leveled(int... told) {
        ClothEnds x = new ClothEnds();
        for (int i = 0; i < told.length; i += 2) {
            x.level(told[i], told[i + 1]);
        }
        return x;
    }

    private static void dueSale(ClothEnds x, int eighths, int t, int lost, int coins, int level) {
        check.due("sale(" + eighths + ", " + t + ", " + lost + ", 0)", x.sale(eighths, t, lost, 0), coins);
        check.due("sale(" + eighths + ", " + t + ", " + lost + ", 1)", x.sale(eighths, t, lost, 1), level);
    }

    private static void sales() {
        ClothEnds x = leveled(10, 3, 4, 9);
        dueSale(x, 12, 2, 0, 66, 0);
        dueSale(x, 12, 1, 0, 36, 1);
        dueSale(x, 12, 2, 50, 60, 0);
        dueSale(x, 0, 60, 0, 0, 0);
        dueSale(x, 2, 1, 0, 20, 0);
        dueSale(x, 480, 60, 0, 10 * 30 + 50 * 36, 0);
        dueSale(x, 12, 4, 0, 120, 0);
        // never one below that of the week ahead: a dear LEVEL behind a cheap one is not gone back from
        dueSale(leveled(4, 9, 10, 3), 12, 2, 0, 66, 0);
        dueSale(leveled(4, 9, 10, 3), 6, 2, 0, 60, 1);
        dueSale(leveled(10, 3, 10, 3, 10, 3), 6, 2, 0, 60, 0);
        dueSale(leveled(1, 0, 5, 5), 5, 2, 0, 25, 0);
        dueSale(leveled(1, 0, 5, 5), 5, 2, 20, 25, 1);
        dueSale(leveled(9, 0), 480, 60, 50, 0, 0);
        // 10, 9 less 2, 6 less 1, 4 less 1, 2, 1: one is sold of each
        dueSale(leveled(1, 1), 10, 60, 25, 6, 0);
        dueSale(leveled(99, 99), 480, 60, 0, 480 * 99, 0);
    }

    private static void wrongSales() {
        ClothEnds x = leveled(10, 3);
        int[][] wrong = {{-1, 1, 0, 0}, {481, 1, 0, 0}, {1, 0, 0, 0}, {1, 61, 0, 0}, {1, 1, -1, 0}, {1, 1, 51, 0},
            {1, 1, 0, 2}, {1, 1, 0, -1}};
        for (int[] w : wrong) {
            check.due("sale", x.sale(w[0], w[1], w[2], w[3]), -1);
        }
        x.level(0, 0);
        dueSale(x, 1, 1, 0, -1, -1);
        check.due("STATUS", x.status(0), 0);
    }

    private static void dueRoll(int outer, int inner, int thick, int least, int most) {
        ClothEnds x = new ClothEnds();
        check.due("roll(" + outer + ", " + inner + ", " + thick + ", 0)", x.roll(outer, inner, thick, 0), least);
        check.due("roll(" + outer + ", " + inner + ", " + thick + ", 1)", x.roll(outer, inner, thick, 1), most);
    }

    private static void rolls() {
        dueRoll(100, 0, 1, 69, 69);
        dueRoll(100, 100, 1, 0, 0);
        dueRoll(9999, 0, 1, (int) (99980001L * 333 / 47700), (int) (99980001L * 355 / 50850));
        check.holds("least and most differ", 99980001L * 333 / 47700 < 99980001L * 355 / 50850);
        dueRoll(9999, 9998, 999, 0, 0);
        dueRoll(600, 150, 7, (int) (337500L * 333 / 333900), (int) (337500L * 355 / 355950));
        dueRoll(1, 0, 999, 0, 0);
        dueRoll(0, 0, 1, -1, -1);
        dueRoll(10000, 0, 1, -1, -1);
        dueRoll(10, -1, 1, -1, -1);
        dueRoll(10, 11, 1, -1, -1);
        dueRoll(10, 1, 0, -1, -1);
        dueRoll(10, 1, 1000, -1, -1);
        dueRoll(-5, -6, 1, -1, -1);
        check.due("what 2", new ClothEnds().roll(10, 1, 1, 2), -1);
        check.due("what -1", new ClothEnds().roll(10, 1, 1, -1), -1);
    }

    private static void entries() {
        ClothEnds x = new ClothEnds();
        int[][] wrong = {{-2, 5}, {6, 5}, {0, 0}, {0, 481}, {5, -1}};
        for (int i = 0; i < wrong.length; i++) {
            check.due("entry", x.entry(wrong[i][0], wrong[i][1]), -2);
            check.due("status(0)", x.status(0), i + 1);
        }
        for (int i = 1; i <= 20; i++) {
            check.due("entry", x.entry(i % 6, 480), i);
        }
        check.due("a 21st", x.entry(0, 1), -2);
        check.due("status(2)", x.status(2), 1);
        check.due("untold, ahead of no room", x.entry(6, 1), -2);
        check.due("status(0)", x.status(0), 6);
        check.due("count(12)", x.count(12), 20);
        check.due("SOLD", x.count(2), 0);
        check.due("entry(NONE, 999)", x.entry(-1, 999), 0);
        check.due("count(12)", x.count(12), 0);
        check.due("nothing SOLD", x.rod(0, 0), 96);
        check.due("entry(5, 1)", x.entry(5, 1), 1);
    }

    private static void dueRod(ClothEnds x, int missing, int twos, int clerk, int e) {
        check.due("rod(" + missing + ", 0)", x.rod(missing, 0), twos);
        check.due("rod(" + missing + ", 1)", x.rod(missing, 1), clerk);
        check.due("rod(" + missing + ", 2)", x.rod(missing, 2), e);
    }

    private static void rods() {
        ClothEnds x = new ClothEnds();
        dueRod(x, 0, 96, 0, -8);
        dueRod(x, 1, 0, -2, 0);
        x.entry(2, 128);
        x.entry(4, 96);
        x.entry(2, 64);
        dueRod(x, 6, 2, 2, 2);
        dueRod(x, -6, 2, 2, -2);
        dueRod(x, 3, 2, 2, 1);
        dueRod(x, 12, 2, 2, 4);
        dueRod(x, 24, 1, 2, 8);
        dueRod(x, -24, 1, 2, -8);
        dueRod(x, 27, 0, -2, 0);
        dueRod(x, 1, 0, -2, 0);
        dueRod(x, 0, 64, 0, -8);
        x.entry(0, 96);
        dueRod(x, -3, 3, 0, -2);
        dueRod(x, 481, -1, -1, -1);
        dueRod(x, -481, -1, -1, -1);
        dueRod(x, 480, 0, -2, 0);
        check.due("what 3", x.rod(0, 3), -1);
        check.due("what -1", x.rod(0, -1), -1);
        check.due("STATUS", x.status(0), 0);
        ClothEnds y = new ClothEnds();
        for (int i = 0; i < 8; i++) {
            y.entry(5, 480);
        }
        dueRod(y, 480, 1, 5, 8);
        dueRod(y, -480, 1, 5, -8);
    }
}
