/** Promises 23 to 25: a test for each sentence that names a boundary case. */
public final class MadeEdgeTest {
    public static void main(String[] args) throws IllegalAccessException {
        Edge.run(MadeEdgeTest.class);
    }

    private static final int MIN = Integer.MIN_VALUE;
    private static final int MAX = Integer.MAX_VALUE;

    /** An object with all its BALES in the BASKET. */
    private static ClothEnds basket(String shop) {
        ClothEnds x = Check.with(shop + ";board 80");
        for (int i = 0; i < x.count(0); i++) {
            x.basket(i);
        }
        return x;
    }

    private static void dueMade(Edge e, String shop, int want) {
        e.due("made of " + shop, basket(shop).made(), want);
    }

    private static void dueMadeOf(Edge e, String forms, int length, int width, int worth, int first) {
        ClothEnds x = Check.with("bale 1 1 0 0" + forms);
        e.due("madeOf(" + length + ", " + width + ", 0) of " + forms, x.madeOf(length, width, 0), worth);
        e.due("madeOf(" + length + ", " + width + ", 1) of " + forms, x.madeOf(length, width, 1), first);
    }

    // ---- promise 23: made

    @Sentence(promise = 23, says = "MADE of the whole BASKET: WORTH.")
    static void theWholeBasket(Edge e) {
        e.due("without a SHOP", new ClothEnds().made(), 0);
        e.due("an empty BASKET", Check.with("bale 9 9 9 0;board 9;form 1 1 1").made(), 0);
        dueMade(e, "bale 9 9 9 0", 0);
        dueMade(e, "bale 9 9 9 0;form 10 1 9", 0);
        dueMade(e, "bale 80 99 0 0;form 1 1 999", 80 * 999);
        dueMade(e, Check.times("bale 80 99 0 0", 10, ";") + ";form 1 1 999", 800 * 999);
        ClothEnds x = basket("bale 7 36 0 0;bale 6 54 0 0;form 2 36 5;form 3 54 9");
        e.due("two ENDS", x.made(), 15 + 18);
        x.out(0);
        e.due("one END", x.made(), 18);
        x.out(0);
        e.due("none", x.made(), 0);
    }

    @Sentence(promise = 23, says = "of each END as many FORMS one behind the other as its length has "
        + "(those not wider than it; each as often as one likes)")
    static void notWiderAndAsOften(Edge e) {
        dueMade(e, "bale 9 36 0 0;form 3 36 7", 21);
        dueMade(e, "bale 9 35 0 0;form 3 36 7", 0);
        dueMade(e, "bale 9 37 0 0;form 3 36 7", 21);
        dueMade(e, "bale 8 36 0 0;form 3 36 7", 14);
        dueMade(e, "bale 3 36 0 0;form 3 36 7", 7);
        dueMade(e, "bale 2 36 0 0;form 3 36 7", 0);
        dueMade(e, "bale 8 36 0 0;bale 5 50 0 0;form 3 36 7;form 5 50 99", 14 + 99);
        dueMade(e, "bale 8 36 0 0;form 3 36 7;form 5 36 12;form 8 36 19", 19);
        dueMade(e, "bale 8 36 0 0;form 3 36 7;form 5 36 12;form 8 36 18", 19);
    }

    @Sentence(promise = 23, says = "or, two ENDS of one lot, both of the length of the pair at least, one PAIR, "
        + "and nothing else of these")
    static void pairs(Edge e) {
        dueMade(e, "bale 5 1 3 0;bale 5 1 3 0;pair 5 7", 7);
        dueMade(e, "bale 5 1 3 0;bale 4 1 3 0;pair 5 7", 0);
        dueMade(e, "bale 4 1 3 0;bale 5 1 3 0;pair 5 7", 0);
        dueMade(e, "bale 6 1 3 0;bale 80 99 3 0;pair 5 7", 7);
        dueMade(e, "bale 5 1 3 0;bale 5 1 2 0;pair 5 7", 0);
        dueMade(e, "bale 5 1 0 0;bale 5 1 0 0;pair 5 7", 7);
        dueMade(e, "bale 5 1 9 0;bale 5 1 9 0;pair 5 7", 7);
        dueMade(e, "bale 1 1 9 0;bale 1 1 9 0;pair 1 999", 999);
        dueMade(e, "bale 80 1 9 0;bale 80 1 9 0;pair 80 999", 999);
        dueMade(e, "bale 80 1 9 0;bale 79 1 9 0;pair 80 999", 0);
        dueMade(e, "bale 5 1 3 0;pair 5 7", 0);
        dueMade(e, "bale 5 1 3 0;bale 5 1 3 0;bale 5 1 3 0;pair 5 7", 7);
        dueMade(e, "bale 5 1 3 0;bale 5 1 3 0;pair 5 0", 0);
        dueMade(e, Check.times("bale 5 1 3 0", 10, ";") + ";pair 5 7", 35);
        // nothing else of these: 20 by FORMS, or the PAIR
        dueMade(e, "bale 5 1 3 0;bale 5 1 3 0;form 1 1 2;pair 5 19", 20);
        dueMade(e, "bale 5 1 3 0;bale 5 1 3 0;form 1 1 2;pair 5 21", 21);
    }

    @Sentence(promise = 23, says = "the most WORTH together")
    static void theMostTogether(Edge e) {
        // alone 6, 10, 12 and 14: a PAIR is of the least two
        String four = "bale 3 1 3 0;bale 5 1 3 0;bale 6 1 3 0;bale 7 1 3 0;form 1 1 2";
        dueMade(e, four + ";pair 3 15", 42);
        dueMade(e, four + ";pair 3 16", 42);
        dueMade(e, four + ";pair 3 17", 43);
        dueMade(e, four + ";pair 3 26", 52);
        dueMade(e, four + ";pair 3 27", 54);
        dueMade(e, four + ";pair 4 22", 42);
        dueMade(e, four + ";pair 4 23", 43);
        dueMade(e, four + ";pair 6 27", 43);
        dueMade(e, four + ";pair 7 99", 42);
        dueMade(e, "bale 5 1 0 0;bale 5 1 9 0;bale 5 1 9 0;bale 5 1 0 0;form 1 1 2;pair 5 21", 42);
        dueMade(e, "bale 5 1 0 0;bale 5 1 9 0;bale 5 1 9 0;bale 5 1 1 0;form 1 1 2;pair 5 21", 41);
        dueMade(e, "bale 5 9 0 0;bale 5 1 0 0;bale 5 1 0 0;form 5 9 20;form 5 1 4;pair 5 10", 30);
    }

    // ---- promise 24: madeOf

    @Sentence(promise = 24, says = "MADE of an END of a length and width (1 to 80, 1 to 99) what 0: WORTH")
    static void ofALengthAndWidth(Edge e) {
        dueMadeOf(e, ";form 1 1 999", 1, 1, 999, 0);
        dueMadeOf(e, ";form 1 1 999", 80, 99, 80 * 999, 0);
        dueMadeOf(e, ";form 80 99 999", 80, 99, 999, 0);
        dueMadeOf(e, ";form 80 99 999", 79, 99, 0, -2);
        dueMadeOf(e, ";form 80 99 999", 80, 98, 0, -2);
        dueMadeOf(e, ";form 2 36 5;form 3 54 9", 4, 54, 10, 0);
        dueMadeOf(e, ";form 2 36 5;form 3 54 9", 4, 53, 10, 0);
        dueMadeOf(e, ";form 2 36 5;form 3 54 9", 5, 53, 10, 0);
        dueMadeOf(e, ";form 2 36 5;form 3 54 9", 5, 54, 14, 0);
        dueMadeOf(e, ";form 2 36 5;form 3 54 9", 3, 54, 9, 1);
        e.due("a PAIR is not asked", Check.with("bale 1 1 0 0;pair 1 99").madeOf(5, 5, 0), 0);
    }

    @Sentence(promise = 24, says = "1: the FORM laid first (-2: none can be)")
    static void noneCanBe(Edge e) {
        dueMadeOf(e, "", 80, 99, 0, -2);
        dueMadeOf(e, ";form 2 36 5", 1, 99, 0, -2);
        dueMadeOf(e, ";form 2 36 5", 80, 35, 0, -2);
        dueMadeOf(e, ";form 2 36 5", 2, 36, 5, 0);
        dueMadeOf(e, ";form 1 36 0", 1, 36, 0, 0);
        dueMadeOf(e, ";form 2 36 5;form 1 36 0", 1, 36, 0, 1);
        e.due("without a SHOP", new ClothEnds().madeOf(1, 1, 1), -2);
        e.due("without a SHOP", new ClothEnds().madeOf(80, 99, 0), 0);
    }

    @Sentence(promise = 24, says = "(of several the least by which that can be)")
    static void theLeastOfSeveral(Edge e) {
        dueMadeOf(e, ";form 2 1 5;form 2 1 5;form 2 1 5", 2, 1, 5, 0);
        dueMadeOf(e, ";form 2 1 4;form 2 1 5;form 2 1 5", 2, 1, 5, 1);
        dueMadeOf(e, ";form 3 1 9;form 2 1 5", 5, 1, 14, 0);
        dueMadeOf(e, ";form 3 1 9;form 2 1 5", 4, 1, 10, 1);
        dueMadeOf(e, ";form 2 2 5;form 2 1 5", 2, 1, 5, 1);
        dueMadeOf(e, ";form 3 1 5;form 2 1 5", 2, 1, 5, 1);
        // a worthless one first leaves length enough for all the WORTH
        dueMadeOf(e, ";form 1 1 0;form 5 1 10", 6, 1, 10, 0);
        dueMadeOf(e, ";form 1 1 0;form 5 1 10", 5, 1, 10, 1);
        String eight = ";form 1 1 1;form 1 1 2;form 1 1 3;form 1 1 4;form 1 1 5;form 1 1 6;form 1 1 7;form 1 1 8";
        dueMadeOf(e, eight, 1, 1, 8, 7);
    }

    @Sentence(promise = 24, says = "NONE without these.")
    static void noSuchEnd(Edge e) {
        for (int length : new int[] {0, -1, 81, MIN, MAX}) {
            e.answersNone(Edge::rich, "madeOf(" + length + ", 54, 0)", x -> x.madeOf(length, 54, 0));
            e.answersNone(Edge::rich, "madeOf(" + length + ", 54, 1)", x -> x.madeOf(length, 54, 1));
        }
        for (int width : new int[] {0, -1, 100, MIN, MAX}) {
            e.answersNone(Edge::rich, "madeOf(6, " + width + ", 0)", x -> x.madeOf(6, width, 0));
            e.answersNone(Edge::rich, "madeOf(6, " + width + ", 1)", x -> x.madeOf(6, width, 1));
        }
        for (int what : new int[] {-1, 2, MIN, MAX}) {
            e.answersNone(Edge::rich, "madeOf(6, 54, " + what + ")", x -> x.madeOf(6, 54, what));
        }
        e.answersNone(ClothEnds::new, "madeOf(0, 1, 0)", x -> x.madeOf(0, 1, 0));
    }

    // ---- promise 25: line

    private static void dueLine(Edge e, String forms, int width, int brings, int often, int want) {
        e.due("line(" + width + ", " + brings + ", " + often + ") of " + forms,
            Check.with("bale 1 1 0 0" + forms).line(width, brings, often), want);
    }

    @Sentence(promise = 25, says = "the greatest length (0 to 80) so that all ENDS of a width up to it are WORTH at most "
        + "that times so often by 100")
    static void theGreatestLength(Edge e) {
        dueLine(e, ";form 1 1 1", 1, 0, 100, 0);
        dueLine(e, ";form 1 1 1", 1, 1, 100, 1);
        dueLine(e, ";form 1 1 1", 1, 79, 100, 79);
        dueLine(e, ";form 1 1 1", 1, 80, 100, 80);
        dueLine(e, ";form 1 1 1", 1, 81, 100, 80);
        dueLine(e, ";form 80 1 9", 1, 8, 100, 79);
        dueLine(e, ";form 80 1 9", 1, 9, 100, 80);
        dueLine(e, ";form 3 1 9", 1, 8, 100, 2);
        dueLine(e, ";form 3 1 9", 1, 9, 100, 5);
        dueLine(e, ";form 3 2 9", 1, 0, 0, 80);
        dueLine(e, ";form 3 2 9", 2, 0, 0, 2);
        dueLine(e, ";form 1 1 0", 1, 0, 0, 80);
        dueLine(e, "", 99, 0, 0, 80);
        e.due("without a SHOP", new ClothEnds().line(1, 0, 0), 80);
    }

    @Sentence(promise = 25, says = "for what one brings who comes again (0 to 9999, in hundred times so often, 0 to 100)")
    static void inHundredTimes(Edge e) {
        dueLine(e, ";form 1 1 1", 1, 2, 50, 1);
        dueLine(e, ";form 1 1 1", 1, 2, 49, 0);
        dueLine(e, ";form 1 1 1", 1, 3, 50, 1);
        dueLine(e, ";form 1 1 1", 1, 100, 1, 1);
        dueLine(e, ";form 1 1 1", 1, 99, 1, 0);
        dueLine(e, ";form 1 1 1", 1, 9999, 0, 0);
        dueLine(e, ";form 1 1 1", 1, 9999, 1, 80);
        dueLine(e, ";form 1 1 999", 1, 9999, 100, 10);
        dueLine(e, ";form 1 1 999", 1, 9990, 100, 10);
        dueLine(e, ";form 1 1 999", 1, 9989, 100, 9);
        dueLine(e, ";form 1 1 999", 1, 9999, 99, 9);
    }

    @Sentence(promise = 25, says = "LINE; NONE without these (width 1 to 99).")
    static void noSuchLine(Edge e) {
        for (int width : new int[] {0, -1, 100, MIN, MAX}) {
            e.answersNone(Edge::rich, "line(" + width + ", 1, 1)", x -> x.line(width, 1, 1));
        }
        for (int brings : new int[] {-1, 10000, MIN, MAX}) {
            e.answersNone(Edge::rich, "line(1, " + brings + ", 1)", x -> x.line(1, brings, 1));
        }
        for (int often : new int[] {-1, 101, MIN, MAX}) {
            e.answersNone(Edge::rich, "line(1, 1, " + often + ")", x -> x.line(1, 1, often));
        }
        e.answersNone(ClothEnds::new, "line(0, 0, 0)", x -> x.line(0, 0, 0));
        dueLine(e, ";form 1 99 1", 99, 9, 100, 9);
        dueLine(e, ";form 1 99 1", 98, 9, 100, 80);
    }
}
