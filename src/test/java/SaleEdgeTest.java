/** Promises 26 to 30: a test for each sentence that names a boundary case. */
public final class SaleEdgeTest {
    public static void main(String[] args) throws IllegalAccessException {
        Edge.run(SaleEdgeTest.class);
    }

    private static final int MIN = Integer.MIN_VALUE;
    private static final int MAX = Integer.MAX_VALUE;

    /** An object with LEVELS: price, EIGHTHS, price, EIGHTHS, .. */
    private static ClothEnds levels(int... told) {
        ClothEnds x = new ClothEnds();
        for (int i = 0; i < told.length; i += 2) {
            x.level(told[i], told[i + 1]);
        }
        return x;
    }

    private static ClothEnds fiveLevels() {
        return levels(9, 1, 8, 2, 7, 3, 6, 4, 5, 5);
    }

    // ---- promise 26: level

    @Sentence(promise = 26, says = "A LEVEL (price 0: there are none then, 0): how many there are")
    static void howManyLevels(Edge e) {
        ClothEnds x = new ClothEnds();
        e.due("level(0, 0) of none", x.level(0, 0), 0);
        for (int i = 1; i <= 5; i++) {
            e.due("level", x.level(i, i), i);
            e.due("count(13)", x.count(13), i);
        }
        e.due("level(0, 0) of five", x.level(0, 0), 0);
        e.due("count(13)", x.count(13), 0);
        e.due("sale of none", x.sale(1, 1, 0, 0), -1);
        e.due("level", x.level(2, 9), 1);
        e.due("the old ones are gone", x.sale(9, 60, 0, 0), 18);
        // of what is told with a price of 0 nothing is asked
        for (int eighths : new int[] {-1, 100, MIN, MAX}) {
            x.level(3, 3);
            e.due("level(0, " + eighths + ")", x.level(0, eighths), 0);
            e.due("count(13)", x.count(13), 0);
        }
        e.dueStatus(x, 0, 0, 0);
    }

    @Sentence(promise = 26, says = "-2 for others (STATUS 0)")
    static void refusedLevels(Edge e) {
        for (int price : new int[] {-1, 100, MIN, MAX}) {
            e.refuses(Edge::rich, "level(" + price + ", 1)", x -> x.level(price, 1), 0);
            e.refuses(SaleEdgeTest::fiveLevels, "level(" + price + ", 1) of five", x -> x.level(price, 1), 0);
        }
        for (int eighths : new int[] {-1, 100, MIN, MAX}) {
            e.refuses(Edge::rich, "level(1, " + eighths + ")", x -> x.level(1, eighths), 0);
            e.refuses(SaleEdgeTest::fiveLevels, "level(1, " + eighths + ") of five", x -> x.level(1, eighths), 0);
        }
    }

    @Sentence(promise = 26, says = "or if there are 5 (2)")
    static void aSixthLevel(Edge e) {
        e.refuses(SaleEdgeTest::fiveLevels, "a sixth", x -> x.level(1, 1), 2);
        e.refuses(SaleEdgeTest::fiveLevels, "a sixth", x -> x.level(99, 99), 2);
        ClothEnds x = fiveLevels();
        e.due("level(0, 0) of five", x.level(0, 0), 0);
        e.due("room again", x.level(1, 1), 1);
        e.dueStatus(x, 0, 0, 0);
    }

    @Sentence(promise = 26, says = "LEVELS 0 to 4, told: price (1 to 99) and how many EIGHTHS go in a week at most (0 to 99)")
    static void priceAndEighths(Edge e) {
        e.due("price 1, EIGHTHS 0", levels(1, 0).count(13), 1);
        e.due("price 99, EIGHTHS 99", levels(99, 99).count(13), 1);
        e.due("none go", levels(99, 0).sale(480, 60, 0, 0), 0);
        e.due("99 go", levels(99, 99).sale(480, 1, 0, 0), 99 * 99);
        e.due("98 of 98", levels(99, 99).sale(98, 1, 0, 0), 98 * 99);
        e.due("the first LEVEL", fiveLevels().sale(1, 1, 0, 1), 0);
        e.due("the last LEVEL", fiveLevels().sale(480, 1, 0, 1), 4);
    }

    // ---- promise 27: sale

    private static void dueSale(Edge e, ClothEnds x, int eighths, int t, int lost, int coins, int level) {
        String call = "sale(" + eighths + ", " + t + ", " + lost + ", ";
        e.due(call + "0)", x.sale(eighths, t, lost, 0), coins);
        e.due(call + "1)", x.sale(eighths, t, lost, 1), level);
    }

    @Sentence(promise = 27, says = "SALE (lost 0 to 50 hundredths) what 0: coins, 1: LEVEL")
    static void whatIsLost(Edge e) {
        // of 3 one is sold: of 2 left by 50 hundredths one is lost, by 49 none
        dueSale(e, levels(5, 1), 10, 2, 0, 10, 0);
        dueSale(e, levels(5, 1), 3, 2, 50, 10, 0);
        dueSale(e, levels(1, 1), 3, 9, 50, 2, 0);
        dueSale(e, levels(1, 1), 3, 9, 49, 3, 0);
        for (int lost : new int[] {-1, 51, 100, MIN, MAX}) {
            e.answersNone(Edge::rich, "sale(1, 1, " + lost + ", 0)", x -> x.sale(1, 1, lost, 0));
        }
        for (int what : new int[] {-1, 2, MIN, MAX}) {
            e.answersNone(Edge::rich, "sale(1, 1, 0, " + what + ")", x -> x.sale(1, 1, 0, what));
        }
    }

    @Sentence(promise = 27, says = "NONE without these (no LEVELS).")
    static void noLevels(Edge e) {
        for (int what = 0; what < 2; what++) {
            int asked = what;
            e.answersNone(ClothEnds::new, "sale(1, 1, 0, " + what + ")", x -> x.sale(1, 1, 0, asked));
            e.answersNone(() -> {
                ClothEnds x = fiveLevels();
                x.level(0, 0);
                return x;
            }, "sale(480, 60, 50, " + what + ")", x -> x.sale(480, 60, 50, asked));
        }
    }

    @Sentence(promise = 27, says = "the most coins from so many EIGHTHS (0 to 480)")
    static void soManyEighths(Edge e) {
        for (int eighths : new int[] {-1, 481, MIN, MAX}) {
            e.answersNone(Edge::rich, "sale(" + eighths + ", 1, 0, 0)", x -> x.sale(eighths, 1, 0, 0));
        }
        dueSale(e, levels(5, 9, 7, 9), 0, 60, 50, 0, 0);
        dueSale(e, levels(5, 9, 7, 9), 1, 1, 0, 7, 1);
        dueSale(e, levels(99, 99), 480, 4, 0, 396 * 99, 0);
        dueSale(e, levels(99, 99), 480, 5, 0, 480 * 99, 0);
        dueSale(e, levels(99, 8), 480, 60, 0, 480 * 99, 0);
        dueSale(e, levels(9, 1, 8, 2, 7, 3, 6, 4, 5, 5), 480, 60, 0, 300 * 5, 4);
    }

    @Sentence(promise = 27, says = "in each of t weeks (1 to 60) one LEVEL, never one below that of the week ahead")
    static void weeks(Edge e) {
        for (int t : new int[] {0, -1, 61, MIN, MAX}) {
            e.answersNone(Edge::rich, "sale(1, " + t + ", 0, 0)", x -> x.sale(1, t, 0, 0));
        }
        dueSale(e, levels(1, 1), 480, 1, 0, 1, 0);
        dueSale(e, levels(1, 1), 480, 2, 0, 2, 0);
        dueSale(e, levels(1, 1), 480, 59, 0, 59, 0);
        dueSale(e, levels(1, 1), 480, 60, 0, 60, 0);
        dueSale(e, levels(1, 8), 480, 60, 0, 480, 0);
        // dear ones first: 3 of 10, then 9 of 4
        dueSale(e, levels(10, 3, 4, 9), 12, 2, 0, 66, 0);
        // cheap ones first, of which one is not gone back from
        dueSale(e, levels(4, 9, 10, 3), 12, 2, 0, 66, 0);
        dueSale(e, levels(4, 9, 10, 3), 12, 3, 0, 90, 1);
        dueSale(e, levels(9, 9, 1, 99), 108, 2, 0, 9 * 9 + 99, 0);
        dueSale(e, levels(1, 99, 9, 9), 108, 2, 0, 99 + 9 * 9, 0);
        dueSale(e, levels(1, 50, 2, 0, 1, 50), 100, 2, 0, 100, 0);
    }

    @Sentence(promise = 27, says = "never one below that of the week ahead")
    static void neverOneBelow(Edge e) {
        // half of what is left is lost behind each week: it were best to sell 10 of 5 first, then 3 of 9
        dueSale(e, levels(9, 3, 5, 10), 18, 2, 50, 70, 1);
        dueSale(e, levels(5, 10, 9, 3), 18, 2, 50, 77, 0);
        dueSale(e, levels(5, 10, 9, 3, 5, 10), 18, 2, 50, 77, 0);
        dueSale(e, levels(9, 3, 5, 10, 9, 3), 18, 2, 50, 77, 1);
    }

    @Sentence(promise = 27, says = "as many as go are sold (or all there are)")
    static void asManyAsGo(Edge e) {
        dueSale(e, levels(7, 5), 4, 1, 0, 28, 0);
        dueSale(e, levels(7, 5), 5, 1, 0, 35, 0);
        dueSale(e, levels(7, 5), 6, 1, 0, 35, 0);
        dueSale(e, levels(7, 5), 6, 2, 0, 42, 0);
        // as many as go: the cheap ones can't be held back in a week, but by a LEVEL of which none go
        dueSale(e, levels(1, 5, 9, 5), 5, 2, 0, 45, 1);
        dueSale(e, levels(1, 5, 8, 0, 9, 2), 4, 3, 0, 36, 1);
    }

    @Sentence(promise = 27, says = "behind each week of what is left so many hundredths, downwards, are lost (told)")
    static void downwards(Edge e) {
        dueSale(e, levels(1, 0, 1, 99), 3, 2, 33, 3, 0);
        dueSale(e, levels(1, 0, 1, 99), 3, 2, 34, 3, 1);
        // of 99 left 1 in 100 is nothing, of 100 it is one
        dueSale(e, levels(1, 1, 1, 99), 100, 2, 1, 100, 0);
        dueSale(e, levels(1, 1, 1, 99), 101, 2, 1, 101, 1);
        dueSale(e, levels(1, 1), 2, 60, 50, 2, 0);
        dueSale(e, levels(1, 1), 3, 60, 50, 2, 0);
        dueSale(e, levels(1, 1), 4, 60, 50, 3, 0);
        dueSale(e, levels(1, 1), 101, 60, 1, 60, 0);
        // 10: 9, less 2: 7; 6, less 1: 5; 4, less 1: 3; 2; 1
        dueSale(e, levels(1, 1), 10, 60, 25, 6, 0);
        dueSale(e, levels(1, 1), 10, 3, 25, 3, 0);
        // 480: 381, less 190: 191; 92, less 46: 46
        dueSale(e, levels(1, 1, 1, 99), 480, 3, 50, 99 + 99 + 46, 1);
    }

    @Sentence(promise = 27, says = "the LEVEL of the first week (the least by which that can be)")
    static void theFirstWeek(Edge e) {
        dueSale(e, levels(5, 5, 5, 5, 5, 5), 5, 1, 0, 25, 0);
        dueSale(e, levels(4, 5, 5, 5, 5, 5), 5, 1, 0, 25, 1);
        dueSale(e, levels(1, 0, 5, 5), 5, 2, 0, 25, 0);
        dueSale(e, levels(1, 0, 5, 5), 5, 1, 0, 25, 1);
        dueSale(e, levels(1, 0, 5, 5), 6, 2, 0, 30, 1);
        dueSale(e, levels(1, 0, 2, 0, 3, 0, 4, 0, 5, 5), 5, 1, 0, 25, 4);
        dueSale(e, levels(1, 0, 2, 0, 3, 0, 4, 0, 5, 5), 9, 1, 0, 25, 4);
        dueSale(e, levels(7, 0), 9, 9, 0, 0, 0);
        dueSale(e, levels(7, 9, 9, 9), 0, 9, 0, 0, 0);
    }

    // ---- promise 28: roll

    private static void dueRoll(Edge e, int outer, int inner, int thick, int least, int most) {
        ClothEnds x = new ClothEnds();
        String call = "roll(" + outer + ", " + inner + ", " + thick + ", ";
        e.due(call + "0)", x.roll(outer, inner, thick, 0), least);
        e.due(call + "1)", x.roll(outer, inner, thick, 1), most);
    }

    @Sentence(promise = 28, says = "ROLL (outer 1 to 9999, inner 0 to outer, thick 1 to 999) what 0: EIGHTHS at least, "
        + "1: at most")
    static void theGreatestRolls(Edge e) {
        dueRoll(e, 1, 0, 1, 0, 0);
        dueRoll(e, 1, 1, 999, 0, 0);
        // 99980001 hundredths squared: by 106 and 450, 33293340333 by 47700; 35492900355 by 50850
        dueRoll(e, 9999, 0, 1, 697973, 697992);
        dueRoll(e, 9999, 9999, 1, 0, 0);
        // 19997: 6659001 by 47700; 7098935 by 50850
        dueRoll(e, 9999, 9998, 1, 139, 139);
        dueRoll(e, 9999, 0, 999, 698, 698);
        dueRoll(e, 12, 11, 1, 0, 0);
    }

    @Sentence(promise = 28, says = "NONE without these.")
    static void noSuchRoll(Edge e) {
        for (int outer : new int[] {0, -1, 10000, MIN, MAX}) {
            e.answersNone(Edge::rich, "roll(" + outer + ", 0, 1, 0)", x -> x.roll(outer, 0, 1, 0));
        }
        for (int inner : new int[] {-1, 11, MIN, MAX}) {
            e.answersNone(Edge::rich, "roll(10, " + inner + ", 1, 0)", x -> x.roll(10, inner, 1, 0));
        }
        for (int thick : new int[] {0, -1, 1000, MIN, MAX}) {
            e.answersNone(Edge::rich, "roll(10, 1, " + thick + ", 0)", x -> x.roll(10, 1, thick, 0));
        }
        for (int what : new int[] {-1, 2, MIN, MAX}) {
            e.answersNone(Edge::rich, "roll(10, 1, 1, " + what + ")", x -> x.roll(10, 1, 1, what));
        }
        e.answersNone(ClothEnds::new, "roll(0, 0, 1, 0)", x -> x.roll(0, 0, 1, 0));
        e.answersNone(ClothEnds::new, "roll(-1, -1, 1, 0)", x -> x.roll(-1, -1, 1, 0));
    }

    @Sentence(promise = 28, says = "4.5 inches an EIGHTH, with pi at least 333 / 106, at most 355 / 113: both downwards")
    static void bothDownwards(Edge e) {
        // 144: 47952 by 47700, 51120 by 50850
        dueRoll(e, 12, 0, 1, 1, 1);
        // 143: 47619 by 47700, 50765 by 50850
        dueRoll(e, 12, 1, 1, 0, 0);
        // 5300 squared hundredths are 37 EIGHTHS at least, without a rest; 5299 are fewer
        dueRoll(e, 1326, 1324, 1, 37, 37);
        dueRoll(e, 382, 375, 1, 36, 36);
        // 20340 are 142 at most, without a rest; 20339 are fewer
        dueRoll(e, 5086, 5084, 1, 141, 142);
        dueRoll(e, 930, 919, 1, 141, 141);
        dueRoll(e, 5086, 5084, 2, 70, 71);
        dueRoll(e, 5086, 5084, 71, 1, 2);
        dueRoll(e, 5086, 5084, 142, 0, 1);
        dueRoll(e, 5086, 5084, 143, 0, 0);
    }

    // ---- promise 29: entry

    private static ClothEnds twenty() {
        ClothEnds x = new ClothEnds();
        for (int i = 0; i < 20; i++) {
            x.entry(i % 6, 64);
        }
        return x;
    }

    @Sentence(promise = 29, says = "An ENTRY (clerk NONE: there are none then, 0): how many there are")
    static void howManyEntries(Edge e) {
        ClothEnds x = new ClothEnds();
        e.due("entry(NONE, 1) of none", x.entry(-1, 1), 0);
        for (int i = 1; i <= 20; i++) {
            e.due("entry", x.entry(i % 6, 480), i);
            e.due("count(12)", x.count(12), i);
        }
        e.due("nothing is SOLD by it", x.count(2), 0);
        e.due("entry(NONE, 1) of twenty", x.entry(-1, 1), 0);
        e.due("count(12)", x.count(12), 0);
        e.due("nobody SOLD anything", x.rod(0, 0), 96);
        // of what is told with the clerk NONE nothing is asked
        for (int eighths : new int[] {0, -1, 481, MIN, MAX}) {
            x.entry(1, 1);
            e.due("entry(NONE, " + eighths + ")", x.entry(-1, eighths), 0);
            e.due("count(12)", x.count(12), 0);
        }
        e.dueStatus(x, 0, 0, 0);
    }

    @Sentence(promise = 29, says = "-2 for others (STATUS 0)")
    static void refusedEntries(Edge e) {
        for (int clerk : new int[] {-2, 6, MIN, MAX}) {
            e.refuses(Edge::rich, "entry(" + clerk + ", 1)", x -> x.entry(clerk, 1), 0);
            e.refuses(SaleEdgeTest::twenty, "entry(" + clerk + ", 1) of twenty", x -> x.entry(clerk, 1), 0);
        }
        for (int eighths : new int[] {0, -1, 481, MIN, MAX}) {
            e.refuses(Edge::rich, "entry(0, " + eighths + ")", x -> x.entry(0, eighths), 0);
            e.refuses(SaleEdgeTest::twenty, "entry(0, " + eighths + ") of twenty", x -> x.entry(0, eighths), 0);
        }
    }

    @Sentence(promise = 29, says = "or if there are 20 (2)")
    static void a21stEntry(Edge e) {
        e.refuses(SaleEdgeTest::twenty, "entry(0, 1) of twenty", x -> x.entry(0, 1), 2);
        e.refuses(SaleEdgeTest::twenty, "entry(5, 480) of twenty", x -> x.entry(5, 480), 2);
        ClothEnds x = twenty();
        e.due("entry(NONE, 0)", x.entry(-1, 0), 0);
        e.due("room again", x.entry(5, 480), 1);
        e.dueStatus(x, 0, 0, 0);
    }

    @Sentence(promise = 29, says = "BOOKS: ENTRIES 0 to 19: a clerk (0 to 5) SOLD so many EIGHTHS (1 to 480)")
    static void leastAndMostSold(Edge e) {
        for (int clerk = 0; clerk < 6; clerk++) {
            ClothEnds x = new ClothEnds();
            e.due("entry(" + clerk + ", 480)", x.entry(clerk, 480), 1);
            e.due("whose rod", x.rod(60, 1), clerk);
            e.due("his e", x.rod(60, 2), 8);
            e.due("entry(" + clerk + ", 1)", x.entry(clerk, 1), 2);
            e.due("whose rod", x.rod(60, 1), -2);
        }
        ClothEnds y = new ClothEnds();
        for (int i = 1; i <= 20; i++) {
            y.entry(3, 192);
        }
        // 3840 by 64
        e.due("all are of one clerk", y.rod(60, 1), 3);
        e.due("his e", y.rod(60, 2), 1);
        e.due("at 480", y.rod(480, 2), 8);
        e.due("at -480", y.rod(-480, 2), -8);
    }

    // ---- promise 30: rod

    private static void dueRod(Edge e, ClothEnds x, int missing, int twos, int clerk, int by) {
        e.due("rod(" + missing + ", 0)", x.rod(missing, 0), twos);
        e.due("rod(" + missing + ", 1)", x.rod(missing, 1), clerk);
        e.due("rod(" + missing + ", 2)", x.rod(missing, 2), by);
    }

    @Sentence(promise = 30, says = "ROD what 0: how many twos, 1: the clerk of the first (-2: there is none), "
        + "2: its e (0: there is none)")
    static void thereIsNone(Edge e) {
        ClothEnds x = new ClothEnds();
        dueRod(e, x, 1, 0, -2, 0);
        dueRod(e, x, -1, 0, -2, 0);
        dueRod(e, x, 480, 0, -2, 0);
        dueRod(e, x, 0, 96, 0, -8);
        for (int clerk = 0; clerk < 6; clerk++) {
            x.entry(clerk, 64);
        }
        dueRod(e, x, 0, 0, -2, 0);
        dueRod(e, x, 9, 0, -2, 0);
        dueRod(e, x, -9, 0, -2, 0);
        dueRod(e, x, 8, 6, 0, 8);
    }

    @Sentence(promise = 30, says = "clerks and e (-8 to 8, not 0) for whom e times what he SOLD by 64 is that exactly")
    static void exactly(Edge e) {
        ClothEnds x = new ClothEnds();
        x.entry(0, 1);
        x.entry(1, 1);
        x.entry(2, 1);
        x.entry(3, 1);
        x.entry(4, 64);
        x.entry(5, 96);
        for (int by = -8; by <= 8; by++) {
            if (by != 0 && by % 3 != 0) {
                dueRod(e, x, by, 1, 4, by);
            }
        }
        // 96 by 64, twice: 3; three times it is no whole one
        dueRod(e, x, 3, 2, 4, 3);
        dueRod(e, x, -6, 2, 4, -6);
        dueRod(e, x, 9, 1, 5, 6);
        dueRod(e, x, -12, 1, 5, -8);
        dueRod(e, x, 10, 0, -2, 0);
        dueRod(e, x, 0, 0, -2, 0);
        ClothEnds y = new ClothEnds();
        y.entry(0, 8);
        e.due("8 by 8 by 64", y.rod(1, 2), 8);
        e.due("8 by -8 by 64", y.rod(-1, 2), -8);
        e.due("not by nine", y.rod(2, 0), 0);
        ClothEnds z = new ClothEnds();
        z.entry(0, 7);
        z.entry(0, 480);
        e.due("what is nearly 1 is not", z.rod(1, 0), 0);
        e.due("what is nearly 60 is not", z.rod(60, 0), 0);
    }

    @Sentence(promise = 30, says = "the first of them (least clerk, then least e)")
    static void theFirst(Edge e) {
        ClothEnds x = new ClothEnds();
        x.entry(0, 128);
        x.entry(1, 64);
        dueRod(e, x, 2, 2, 0, 1);
        dueRod(e, x, -2, 2, 0, -1);
        dueRod(e, x, 1, 1, 1, 1);
        // all e of those who SOLD nothing
        dueRod(e, x, 0, 64, 2, -8);
        x.entry(2, 1);
        x.entry(3, 1);
        x.entry(4, 1);
        dueRod(e, x, 0, 16, 5, -8);
        x.entry(5, 1);
        dueRod(e, x, 0, 0, -2, 0);
    }

    @Sentence(promise = 30, says = "if so many EIGHTHS are missing (-480 to 480)")
    static void soManyMissing(Edge e) {
        for (int missing : new int[] {-481, 481, MIN, MAX}) {
            for (int what = 0; what < 3; what++) {
                int asked = what;
                e.answersNone(Edge::rich, "rod(" + missing + ", " + what + ")", x -> x.rod(missing, asked));
            }
        }
        ClothEnds x = new ClothEnds();
        for (int i = 0; i < 8; i++) {
            x.entry(5, 480);
        }
        dueRod(e, x, 480, 1, 5, 8);
        dueRod(e, x, -480, 1, 5, -8);
        dueRod(e, x, 481, -1, -1, -1);
        dueRod(e, x, -481, -1, -1, -1);
    }

    @Sentence(promise = 30, says = "NONE without these.")
    static void noSuchRod(Edge e) {
        for (int what : new int[] {-1, 3, MIN, MAX}) {
            e.answersNone(Edge::rich, "rod(0, " + what + ")", x -> x.rod(0, what));
            e.answersNone(ClothEnds::new, "rod(0, " + what + ")", x -> x.rod(0, what));
        }
    }
}
