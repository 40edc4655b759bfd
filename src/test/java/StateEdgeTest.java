/** Promises 31 to 35: a test for each sentence that names a boundary case. */
public final class StateEdgeTest {
    public static void main(String[] args) throws IllegalAccessException {
        Edge.run(StateEdgeTest.class);
    }

    private static final int MIN = Integer.MIN_VALUE;
    private static final int MAX = Integer.MAX_VALUE;

    // ---- promise 31: seed

    @Sentence(promise = 31, says = "x becomes a number: what it was")
    static void whatItWas(Edge e) {
        ClothEnds x = new ClothEnds();
        int was = 0;
        for (int seed : new int[] {0, 1, MAX, MAX - 1, 0, MAX}) {
            e.due("seed(" + seed + ")", x.seed(seed), was);
            e.due("x", x.count(9), seed);
            was = seed;
        }
        e.dueStatus(x, 0, 0, 0);
    }

    @Sentence(promise = 31, says = "-2 below 0 (STATUS 0)")
    static void belowNothing(Edge e) {
        for (int seed : new int[] {-1, -2, MIN}) {
            e.refuses(Edge::rich, "seed(" + seed + ")", x -> x.seed(seed), 0);
            e.refuses(ClothEnds::new, "seed(" + seed + ")", x -> x.seed(seed), 0);
        }
    }

    // ---- promise 32: status

    @Sentence(promise = 32, says = "STATUS of a reason (0 to 2); NONE for others.")
    static void otherReasons(Edge e) {
        for (int reason : new int[] {-1, 3, MIN, MAX}) {
            e.answersNone(Edge::rich, "status(" + reason + ")", x -> x.status(reason));
            e.answersNone(ClothEnds::new, "status(" + reason + ")", x -> x.status(reason));
        }
        e.dueStatus(new ClothEnds(), 0, 0, 0);
    }

    @Sentence(promise = 32, says = "how often a call was refused (changed nothing, though it could have) by reason")
    static void howOften(Edge e) {
        ClothEnds x = Check.with("bale 9 1 0 0");
        for (int i = 1; i <= 40; i++) {
            x.seed(-1);
            e.due("status(0)", x.status(0), i);
        }
        for (int i = 1; i <= 40; i++) {
            x.cut(0, 10);
            e.due("status(1)", x.status(1), i);
        }
        for (int i = 0; i < 9; i++) {
            x.known(1);
        }
        for (int i = 1; i <= 40; i++) {
            x.known(1);
            e.due("status(2)", x.status(2), i);
        }
        e.dueStatus(x, 40, 40, 40);
    }

    @Sentence(promise = 32, says = "(changed nothing, though it could have)")
    static void whatOnlyTellsIsNotCounted(Edge e) {
        ClothEnds x = Edge.rich();
        int[] was = {x.status(0), x.status(1), x.status(2)};
        x.bale(9, 9);
        x.ends(9, 9);
        x.days(9, 9, 9, 9, 9);
        x.all(9);
        x.which(0, 9, 9);
        x.drops(9, 0);
        x.lots(0, 0);
        x.meet(9, 0, 0, 9);
        x.seam(9, 0, 0);
        x.seam(0, 20, 80);
        x.madeOf(0, 0, 9);
        x.line(0, -1, -1);
        x.sale(-1, 0, -1, 9);
        x.roll(0, 0, 0, 9);
        x.rod(999, 9);
        x.status(9);
        x.count(99);
        x.feed(0, 0, 0, 0, 0);
        x.end(-1);
        x.end(401);
        e.dueStatus(x, was[0], was[1], was[2]);
    }

    @Sentence(promise = 32, says = "0 no such BALE, RULE, ORDER, END or number out of what is told")
    static void untold(Edge e) {
        e.refuses(Edge::rich, "no such BALE", x -> x.cut(4, 1), 0);
        e.refuses(Edge::rich, "no such BALE", x -> x.tear(4, 1), 0);
        e.refuses(Edge::rich, "no such BALE", x -> x.basket(4), 0);
        e.refuses(Edge::rich, "no such RULE", x -> x.serve(1, 1), 0);
        e.refuses(Edge::rich, "no such RULE", x -> x.day(1, 1, 1), 0);
        e.refuses(Edge::rich, "no such ORDER", x -> x.serve(0, 481), 0);
        e.refuses(Edge::rich, "no such ORDER", x -> x.known(481), 0);
        e.refuses(Edge::rich, "no such END", x -> x.out(1), 0);
        e.refuses(Edge::rich, "a weight of 10", x -> x.weight(1, 10), 0);
        e.refuses(Edge::rich, "a price of 100", x -> x.level(100, 1), 0);
        e.refuses(Edge::rich, "a clerk 6", x -> x.entry(6, 1), 0);
        e.refuses(Edge::rich, "x below 0", x -> x.seed(-1), 0);
        e.refuses(Edge::rich, "an IMAGE 4", x -> x.image(4), 0);
        e.refuses(Edge::rich, "an IMAGE never made", x -> x.back(0), 0);
    }

    @Sentence(promise = 32, says = "1 not so many EIGHTHS (no END, or no BALE serves)")
    static void tooFew(Edge e) {
        e.refuses(Edge::rich, "not so many", x -> x.cut(0, 480), 1);
        e.refuses(Edge::rich, "not so many", x -> x.tear(0, 480), 1);
        e.refuses(Edge::rich, "no END", x -> x.basket(0), 1);
        ClothEnds x = Edge.rich();
        int was = x.status(1);
        e.due("no BALE serves", x.serve(0, 480), -2);
        e.due("status(1)", x.status(1), was + 1);
    }

    @Sentence(promise = 32, says = "2 no room")
    static void noRoom(Edge e) {
        ClothEnds x = Check.with(Check.times("bale 1 1 0 0", 12, ";") + ";board 1");
        for (int i = 1; i <= 21; i++) {
            e.due("basket", i > 12 ? 0 : x.basket(i - 1), i > 12 ? 0 : i > 10 ? -2 : i);
            e.due("known", x.known(1), i > 9 ? -2 : i);
            e.due("level", x.level(1, 1), i > 5 ? -2 : i);
            e.due("entry", x.entry(1, 1), i > 20 ? -2 : i);
        }
        e.dueStatus(x, 0, 0, 2 + 12 + 16 + 1);
    }

    // ---- promise 33: count

    @Sentence(promise = 33, says = "What 0: BALES, 1: RULES, 2: EIGHTHS SOLD, 3: LOST, 4: GIVEN, 5: ORDERS REFUSED, 6: ENDS, "
        + "7: EIGHTHS left in BALES, 8: day, 9: x, 10: bytes of the TAPE, 11: KNOWN ORDERS, 12: ENTRIES, 13: LEVELS, "
        + "14: thumb, 15: askew, 16: board. NONE for others.")
    static void otherCounts(Edge e) {
        for (int what : new int[] {-1, 17, 18, MIN, MAX}) {
            e.answersNone(Edge::rich, "count(" + what + ")", x -> x.count(what));
            e.answersNone(ClothEnds::new, "count(" + what + ")", x -> x.count(what));
        }
        for (int what = 0; what <= 16; what++) {
            int asked = what;
            e.answers(ClothEnds::new, "count(" + what + ")", x -> x.count(asked), 0);
        }
    }

    @Sentence(promise = 33, says = "What 0: BALES, 1: RULES, 2: EIGHTHS SOLD, 3: LOST, 4: GIVEN, 5: ORDERS REFUSED, 6: ENDS")
    static void theMostThereIs(Edge e) {
        ClothEnds x = Check.with(Check.times("bale 480 1 0 0", 12, ";") + ";thumb 8;askew 8;board 80");
        for (int i = 0; i < 6; i++) {
            Check.rule(x, "from 0;give 1=1");
        }
        Check.tape(x, Check.times("a", 400, ""));
        e.due("left", x.count(7), 5760);
        for (int i = 0; i < 10; i++) {
            x.cut(i, 392);
            x.basket(i);
        }
        for (int i = 1; i <= 20; i++) {
            x.known(480);
            x.level(99, 99);
            x.entry(5, 480);
        }
        x.seed(MAX);
        x.serve(5, 480);
        x.serve(5, 400);
        x.serve(5, 400);
        int[] want = {12, 6, 392 * 10 + 880, 88, 72, 1, 10, 0, 0, MAX, 400, 9, 20, 5, 8, 8, 80};
        for (int what = 0; what <= 16; what++) {
            e.due("count(" + what + ")", x.count(what), want[what]);
        }
    }

    // ---- promises 34 and 35: image, back

    @Sentence(promise = 34, says = "An IMAGE is made: the day")
    static void theDayOfAnImage(Edge e) {
        ClothEnds x = new ClothEnds();
        Check.rule(x, "from 0");
        for (int k = 0; k < 4; k++) {
            e.due("image(" + k + ")", x.image(k), k);
            x.day(0, 1, 1);
        }
        e.due("image(0) anew", x.image(0), 4);
        for (int k = 3; k >= 0; k--) {
            e.due("back(" + k + ")", x.back(k), k == 0 ? 4 : k);
            e.due("day", x.count(8), k == 0 ? 4 : k);
        }
    }

    @Sentence(promise = 34, says = "-2 without it (STATUS 0)")
    static void noSuchImage(Edge e) {
        for (int k : new int[] {-1, 4, MIN, MAX}) {
            e.refuses(Edge::rich, "image(" + k + ")", x -> x.image(k), 0);
            e.refuses(ClothEnds::new, "image(" + k + ")", x -> x.image(k), 0);
        }
    }

    @Sentence(promise = 34, says = "IMAGES 0 to 3: all but the RULES, the TAPE and STATUS, as it is")
    static void allAsItIs(Edge e) {
        for (int k = 0; k < 4; k++) {
            ClothEnds x = Edge.rich();
            String was = Edge.state(x);
            int[] counts = counts(x);
            x.image(k);
            changeAll(x);
            int[] changed = counts(x);
            for (int what : new int[] {2, 3, 4, 5, 6, 7, 8, 9, 11, 12, 13}) {
                e.holds("count(" + what + ") has changed", counts[what] != changed[what]);
            }
            e.due("back(" + k + ")", x.back(k), 1);
            e.holds("all is as it was: " + was + " and " + Edge.state(x), was.equals(Edge.state(x)));
        }
    }

    private static int[] counts(ClothEnds x) {
        int[] counts = new int[17];
        for (int what = 0; what <= 16; what++) {
            counts[what] = x.count(what);
        }
        return counts;
    }

    /** All but the RULES and the TAPE, and the SHOP as far as calls go. */
    private static void changeAll(ClothEnds x) {
        x.out(0);
        x.basket(2);
        x.tear(1, 2);
        x.serve(0, 480);
        x.day(0, 2, 3);
        // what is left of the BALE 0 is GIVEN
        x.serve(0, x.bale(0, 0) - 3);
        x.tear(1, x.bale(1, 0) - 5);
        x.basket(1);
        x.known(0);
        x.known(9);
        x.known(1);
        x.known(2);
        for (int i = 1; i <= 8; i++) {
            x.weight(i, 9 - i);
        }
        x.level(0, 0);
        x.level(8, 7);
        x.entry(-1, 0);
        for (int clerk = 0; clerk < 6; clerk++) {
            x.entry(clerk, 64 + 64 * clerk);
        }
        x.seed(5);
    }

    @Sentence(promise = 34, says = "IMAGES 0 to 3: all but the RULES, the TAPE and STATUS, as it is")
    static void imagesOfAnotherShop(Edge e) {
        ClothEnds x = Edge.rich();
        String was = Edge.state(x);
        x.image(2);
        Check.tape(x, "bale 7 1 0 0;thumb 8;form 1 1 9;pair 9 9");
        x.shop();
        e.due("another SHOP", x.count(0), 1);
        e.due("back", x.back(2), 1);
        x.feed(1, 2, 3, 4, 5);
        e.holds("all is as it was", was.equals(Edge.state(x)));
    }

    @Sentence(promise = 35, says = "All is as in an IMAGE: the day; -2, if it was never made, or without it (STATUS 0)")
    static void neverMade(Edge e) {
        for (int k : new int[] {0, 2, 3, -1, 4, MIN, MAX}) {
            e.refuses(Edge::rich, "back(" + k + ")", x -> x.back(k), 0);
            e.refuses(ClothEnds::new, "back(" + k + ")", x -> x.back(k), 0);
        }
        // its IMAGE 1 was made
        e.due("back(1)", Edge.rich().back(1), 1);
        e.refuses(() -> {
            ClothEnds x = Edge.rich();
            x.image(4);
            x.image(-1);
            return x;
        }, "back(3)", x -> x.back(3), 0);
    }

    @Sentence(promise = 35, says = "gone back to, it is as it was (these stay)")
    static void theseStay(Edge e) {
        ClothEnds x = Check.with("bale 9 1 0 0;bale 9 2 0 0");
        Check.rule(x, "from 0");
        x.image(0);
        Check.rule(x, "from 0-width");
        x.cut(2, 1);
        x.cut(0, 10);
        for (int i = 0; i < 6; i++) {
            x.level(1, 1);
        }
        Check.tape(x, "bale 5 1 0 0");
        e.due("back", x.back(0), 0);
        e.due("RULES", x.count(1), 2);
        e.due("the second RULE", x.serve(1, 9), 1);
        e.dueStatus(x, 1, 1, 1);
        e.due("count(10)", x.count(10), 12);
        e.due("the TAPE", x.shop(), 1);
        e.due("EIGHTHS", x.bale(0, 0), 5);
    }

    @Sentence(promise = 35, says = "gone back to, it is as it was")
    static void moreThanOnce(Edge e) {
        ClothEnds x = new ClothEnds();
        x.image(3);
        Check.shop(x, "bale 9 1 0 0");
        x.known(5);
        x.image(0);
        for (int i = 0; i < 3; i++) {
            e.due("back(3)", x.back(3), 0);
            e.due("no SHOP", x.count(0) + x.count(11), 0);
            e.due("back(0)", x.back(0), 0);
            e.due("left", x.count(7), 9);
            e.due("KNOWN", x.count(11), 1);
            x.cut(0, 9);
            x.known(7);
        }
        e.due("back(0)", x.back(0), 0);
        // what is done behind it is no part of the IMAGE
        e.due("cut", x.cut(0, 4), 0);
        e.due("image(1)", x.image(1), 0);
        e.due("cut", x.cut(0, 4), 0);
        e.due("back(0)", x.back(0), 0);
        e.due("left", x.count(7), 9);
        e.due("back(1)", x.back(1), 0);
        e.due("left", x.count(7), 5);
    }
}
