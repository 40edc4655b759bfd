/** Promises 1 to 3, a test for each sentence that names a boundary case. */
public final class TapeEdgeTest {
    public static void main(String[] args) throws IllegalAccessException {
        Edge.run(TapeEdgeTest.class);
    }

    private static final int BLANKS = 0x20202020;

    // ---- promise 1: a new object

    @Sentence(promise = 1, says = "No SHOP, no RULES.")
    static void aNewObjectHasNothing(Edge e) {
        ClothEnds x = new ClothEnds();
        for (int what = 0; what <= 16; what++) {
            e.due("count(" + what + ")", x.count(what), 0);
        }
        e.dueStatus(x, 0, 0, 0);
        e.due("bale(0, 0)", x.bale(0, 0), -1);
        e.due("ends(0, 0)", x.ends(0, 0), -1);
        e.due("drops(0, 1)", x.drops(0, 1), -1);
        e.due("meet(0, 1, 1, 0)", x.meet(0, 1, 1, 0), -1);
        e.due("seam(0, 1, 1)", x.seam(0, 1, 1), -1);
        e.due("lots(1, 1)", x.lots(1, 1), 0);
        e.due("made()", x.made(), 0);
        e.due("madeOf(80, 99, 0)", x.madeOf(80, 99, 0), 0);
        e.due("madeOf(80, 99, 1)", x.madeOf(80, 99, 1), -2);
        e.due("line(1, 0, 0)", x.line(1, 0, 0), 80);
        for (int what = 0; what < 4; what++) {
            e.due("all(" + what + ")", x.all(what), 0);
        }
        e.due("days(0, 1, 1, 1, 4)", x.days(0, 1, 1, 1, 4), -1);
        e.due("sale(1, 1, 0, 0)", x.sale(1, 1, 0, 0), -1);
        e.due("which(1, 0, 0)", x.which(1, 0, 0), -2);
        e.due("rod(0, 0)", x.rod(0, 0), 96);
        e.dueStatus(x, 0, 0, 0);
    }

    @Sentence(promise = 1, says = "No SHOP, no RULES.")
    static void aNewObjectRefuses(Edge e) {
        e.refuses(ClothEnds::new, "cut(0, 1)", x -> x.cut(0, 1), 0);
        e.refuses(ClothEnds::new, "tear(0, 1)", x -> x.tear(0, 1), 0);
        e.refuses(ClothEnds::new, "basket(0)", x -> x.basket(0), 0);
        e.refuses(ClothEnds::new, "out(0)", x -> x.out(0), 0);
        e.refuses(ClothEnds::new, "serve(0, 1)", x -> x.serve(0, 1), 0);
        e.refuses(ClothEnds::new, "day(0, 1, 1)", x -> x.day(0, 1, 1), 0);
        for (int k = 0; k < 4; k++) {
            int image = k;
            e.refuses(ClothEnds::new, "back(" + k + ")", x -> x.back(image), 0);
        }
    }

    @Sentence(promise = 1, says = "No SHOP, no RULES.")
    static void oneObjectIsNotAnother(Edge e) {
        ClothEnds x = Edge.rich();
        ClothEnds y = new ClothEnds();
        e.holds("the new one is as others are", Edge.state(y).equals(Edge.state(new ClothEnds())));
        e.dueStatus(y, 0, 0, 0);
        e.due("back(1)", y.back(1), -2);
        e.holds("the old one is as it was", Edge.state(x).equals(Edge.state(Edge.rich())));
    }

    @Sentence(promise = 1,
        says = "An object is used for at most 512 calls after it has been made; what later calls answer is free.")
    static void the512thCallAnswers(Edge e) {
        ClothEnds x = new ClothEnds();
        for (int call = 1; call <= 511; call++) {
            x.cut(0, 1);
        }
        e.due("status(0), the 512th call", x.status(0), 511);
        ClothEnds y = Check.with("bale 40 1 1 1;bale 40 1 1 1;bale 40 1 1 1;thumb 1");
        for (int i = 1; i <= 8; i++) {
            y.weight(i, 9);
        }
        // six calls were made for the SHOP, eight for the WEIGHTS
        for (int call = 15; call < 511; call += 2) {
            y.image(call % 4);
            y.back(call % 4);
        }
        e.due("which(8, 4, 0), among the last calls", y.which(8, 4, 0), 0);
    }

    // ---- promise 2: feed

    @Sentence(promise = 2, says = "Twenty bytes come behind the TAPE, of each number the highest first: how many it has")
    static void bytesFromTheHighest(Edge e) {
        ClothEnds x = new ClothEnds();
        // bale 1 2 3 4;thumb 5
        e.due("feed", x.feed(0x62616c65, 0x20312032, 0x20332034, 0x3b746875, 0x6d622035), 20);
        e.due("shop", x.shop(), 1);
        e.dueBale(x, 0, 1, 2, 3, 4);
        e.due("thumb", x.count(14), 5);
    }

    @Sentence(promise = 2, says = "of each number the highest first")
    static void bytesAbove127(Edge e) {
        int[] odd = {0x80202020, 0xff202020, 0x20802020, 0x2020ff20, 0x20202080, 0x202020ff, 0x00202020, 0x20202000};
        int[] place = {12, 12, 13, 14, 15, 15, 12, 15};
        for (int i = 0; i < odd.length; i++) {
            ClothEnds x = new ClothEnds();
            x.feed(0x62616c65, 0x20312031, 0x20302030, odd[i], BLANKS);
            e.due("shop with " + Integer.toHexString(odd[i]), x.shop(), Check.fault(place[i], 0));
        }
        ClothEnds y = new ClothEnds();
        e.due("feed of the least", y.feed(Integer.MIN_VALUE, -1, -1, -1, -1), 20);
        e.due("shop", y.shop(), Check.fault(0, 0));
    }

    @Sentence(promise = 2, says = "NONE, and none comes, if it would have more than 400")
    static void aFullTape(Edge e) {
        ClothEnds x = new ClothEnds();
        for (int i = 1; i <= 20; i++) {
            e.due("feed", x.feed(BLANKS, BLANKS, BLANKS, BLANKS, BLANKS), 20 * i);
        }
        for (int n : new int[] {400, 399, 390, 381}) {
            e.due("end(" + n + ")", x.end(n), n);
            e.due("feed behind " + n, x.feed(1, 1, 1, 1, 1), -1);
            e.due("count(10)", x.count(10), n);
        }
        e.due("end(380)", x.end(380), 380);
        e.due("feed behind 380", x.feed(1, 1, 1, 1, 1), 400);
        e.due("count(10)", x.count(10), 400);
    }

    @Sentence(promise = 2, says = "NONE, and none comes")
    static void noneComesOfAFullTape(Edge e) {
        ClothEnds x = new ClothEnds();
        String text = Check.times(" ", 369, "") + "bale 1 2 3 4";
        Check.tape(x, text + Check.times(" ", 19, ""));
        e.due("end(381)", x.end(381), 381);
        // digits, which would make another NUMBER of the last one
        e.due("feed", x.feed(0x39393939, 0x39393939, 0x39393939, 0x39393939, 0x39393939), -1);
        e.due("shop", x.shop(), 1);
        e.dueBale(x, 0, 1, 2, 3, 4);
    }

    @Sentence(promise = 2, says = "if it would have more than 400 (not counted by STATUS)")
    static void aFullTapeIsNotCounted(Edge e) {
        e.answersNone(() -> {
            ClothEnds x = Edge.rich();
            Check.tape(x, Check.times("a", 400, ""));
            return x;
        }, "feed", x -> x.feed(1, 2, 3, 4, 5));
    }

    // ---- promise 3: end

    @Sentence(promise = 3, says = "The TAPE has its first n bytes alone: n")
    static void theFirstBytesStay(Edge e) {
        ClothEnds x = new ClothEnds();
        e.due("end(0) of an empty TAPE", x.end(0), 0);
        Check.tape(x, "bale 1 1 1 9 thumb 8");
        e.due("end(20), all of it", x.end(20), 20);
        e.due("end(11)", x.end(11), 11);
        e.due("count(10)", x.count(10), 11);
        // 5;thumb 3, and blanks
        e.due("feed behind these", x.feed(0x353b7468, 0x756d6220, 0x33202020, BLANKS, BLANKS), 31);
        e.due("shop", x.shop(), 1);
        e.dueBale(x, 0, 1, 1, 1, 5);
        e.due("thumb", x.count(14), 3);
        Check.tape(x, "bale 1 1 1 9");
        e.due("end(0)", x.end(0), 0);
        e.due("shop of nothing", x.shop(), Check.fault(0, 0));
    }

    @Sentence(promise = 3, says = "NONE, and nothing happens, if it has not so many")
    static void notSoManyBytes(Edge e) {
        e.answersNone(ClothEnds::new, "end(1)", x -> x.end(1));
        e.answersNone(ClothEnds::new, "end(400)", x -> x.end(400));
        // its TAPE has 20 bytes
        e.answersNone(Edge::rich, "end(21)", x -> x.end(21));
        e.answersNone(Edge::rich, "end(40)", x -> x.end(40));
        e.answersNone(Edge::rich, "end(max)", x -> x.end(Integer.MAX_VALUE));
        ClothEnds y = new ClothEnds();
        Check.tape(y, "bale 1 1 1 12");
        e.due("end(12)", y.end(12), 12);
        e.due("end(13), which it had", y.end(13), -1);
        e.due("shop", y.shop(), 1);
        e.due("stripe", y.bale(0, 3), 1);
        e.due("end(1) of what shop has left", y.end(1), -1);
    }

    @Sentence(promise = 3, says = "or n is below 0 (not counted by STATUS)")
    static void bytesBelowNone(Edge e) {
        e.answersNone(ClothEnds::new, "end(-1)", x -> x.end(-1));
        e.answersNone(Edge::rich, "end(-1)", x -> x.end(-1));
        e.answersNone(Edge::rich, "end(-20)", x -> x.end(-20));
        e.answersNone(Edge::rich, "end(min)", x -> x.end(Integer.MIN_VALUE));
        e.due("count(10) behind it", Edge.rich().count(10), 20);
    }
}
