/** Promise 4, with the language of SHOPS: a test for each sentence that names a boundary case. */
public final class ShopEdgeTest {
    private static final String BALE = "bale 9 1 0 0";

    public static void main(String[] args) throws IllegalAccessException {
        Edge.run(ShopEdgeTest.class);
    }

    private static String bales(int n) {
        return Check.times(BALE, n, ";");
    }

    // ---- what the call does

    @Sentence(promise = 4, says = "The TAPE, which is empty then, is the SHOP in place of the one there was")
    static void theTapeIsEmptyThen(Edge e) {
        ClothEnds x = new ClothEnds();
        e.due("shop", Check.shop(x, BALE), 1);
        e.due("count(10)", x.count(10), 0);
        e.due("end(1)", x.end(1), -1);
        e.due("shop of an empty TAPE", x.shop(), Check.fault(0, 0));
        e.due("shop with a FAULT", Check.shop(x, "bale 0"), Check.fault(5, 1));
        e.due("count(10)", x.count(10), 0);
        e.due("feed", x.feed(0, 0, 0, 0, 0), 20);
    }

    @Sentence(promise = 4, says = "The TAPE, which is empty then, is the SHOP in place of the one there was")
    static void nothingOfTheOldShopIsLeft(Edge e) {
        ClothEnds x = Check.with(bales(12) + ";flaw 0 0;flaw 11 8;thumb 8;askew 8;board 80;form 1 1 9;pair 1 99");
        e.due("shop", Check.shop(x, "bale 5 2 3 4;bale 6 2 3 4"), 2);
        e.dueBale(x, 0, 5, 2, 3, 4, 0, -1, 0);
        e.dueBale(x, 1, 6, 2, 3, 4, 0, -1, 0);
        e.dueBale(x, 2, -1, -1);
        e.dueBale(x, 11, -1, -1);
        e.due("BALES", x.count(0), 2);
        e.due("left", x.count(7), 11);
        e.due("thumb", x.count(14), 0);
        e.due("askew", x.count(15), 0);
        e.due("board", x.count(16), 0);
        e.due("no FORM", x.madeOf(80, 99, 1), -2);
        e.due("shop", Check.shop(x, "bale 5 2 3 4;bale 6 2 3 4;board 80"), 2);
        x.basket(0);
        x.basket(1);
        e.due("no pair", x.made(), 0);
        e.due("no FLAW", x.ends(0, 3), 0);
    }

    @Sentence(promise = 4, says = "nothing SOLD, LOST, GIVEN, REFUSED, an empty BASKET, no KNOWN ORDERS, ENTRIES, "
        + "LEVELS, WEIGHTS 0, day 0")
    static void allBeginsAnew(Edge e) {
        ClothEnds x = Check.with("bale 20 1 0 0;bale 20 1 0 0;bale 3 1 0 0;thumb 2;board 3");
        Check.rule(x, "from 0;give 1=1");
        x.serve(0, 16);
        x.serve(0, 99);
        x.basket(2);
        x.day(0, 1, 1);
        x.known(5);
        x.level(5, 5);
        x.entry(0, 64);
        for (int i = 1; i <= 8; i++) {
            x.weight(i, i);
        }
        int[] some = {2, 3, 4, 5, 6, 8, 11, 12, 13};
        for (int what : some) {
            e.holds("count(" + what + ") is above 0", x.count(what) > 0);
        }
        e.due("shop", Check.shop(x, BALE), 1);
        for (int what : some) {
            e.due("count(" + what + ")", x.count(what), 0);
        }
        e.due("which without WEIGHTS", x.which(1, 0, 0), -2);
        for (int i = 1; i <= 8; i++) {
            e.due("weight(" + i + ", 0)", x.weight(i, 0), 0);
        }
        e.due("ends(0, 0)", x.ends(0, 0), -1);
        e.due("all(3)", x.all(3), 0);
        e.due("sale without LEVELS", x.sale(5, 5, 0, 0), -1);
        e.due("rod without ENTRIES", x.rod(0, 0), 96);
        e.due("known", x.known(1), 1);
        e.due("entry", x.entry(1, 1), 1);
        e.due("level", x.level(1, 1), 1);
    }

    @Sentence(promise = 4, says = "x, RULES, STATUS, IMAGES stay")
    static void theseStay(Edge e) {
        ClothEnds x = Check.with("bale 20 1 0 0;bale 7 3 0 0");
        Check.rule(x, "from 0");
        Check.rule(x, "from 0 if width=3");
        x.seed(2147483647);
        x.image(0);
        x.image(3);
        x.cut(2, 1);
        x.cut(0, 21);
        x.cut(0, 22);
        for (int i = 0; i < 12; i++) {
            x.known(1);
        }
        e.due("shop", Check.shop(x, "bale 9 1 0 0;bale 9 3 0 0"), 2);
        e.due("x", x.count(9), 2147483647);
        e.due("RULES", x.count(1), 2);
        e.due("the second RULE", x.serve(1, 4), 1);
        e.dueStatus(x, 1, 2, 3);
        e.due("back(0)", x.back(0), 0);
        e.due("back(3)", x.back(3), 0);
        e.due("left", x.count(7), 27);
        e.due("back(1), never made", x.back(1), -2);
    }

    @Sentence(promise = 4, says = "how many BALES")
    static void howManyBales(Edge e) {
        for (int n = 1; n <= 12; n++) {
            e.shop(bales(n), n);
        }
    }

    @Sentence(promise = 4, says = "-2 - its FAULT, and all else stays (not counted by STATUS)")
    static void aFaultLeavesAll(Edge e) {
        String[] texts = {"", "bale 0", "bale 1 1 0 0;bale 2 2 2 2;flaw 1 2", "thumb 3;askew 4;board 5",
            bales(13), "bale 8 8 8 8;form 9 9 9;pair 9 9;thumb 1;flaw 0 7;thumb 1"};
        int[][] faults = {{0, 0}, {5, 1}, {33, 1}, {23, 0}, {156, 4}, {50, 4}};
        for (int i = 0; i < texts.length; i++) {
            String text = texts[i];
            e.answers(() -> {
                ClothEnds x = Edge.rich();
                x.end(0);
                return x;
            }, "shop of '" + text + "'", x -> Check.shop(x, text), Check.fault(faults[i][0], faults[i][1]));
        }
        e.answers(ClothEnds::new, "shop of 'bale'", x -> Check.shop(x, "bale"), Check.fault(4, 0));
    }

    // ---- how long a text can be

    @Sentence(promise = 4, says = "A SHOP is a text of at most 400 bytes")
    static void aTextOf400(Edge e) {
        e.shop(Check.times(" ", 388, "") + "bale 7 6 5 4", 1);
        e.shop("bale 7 6 5 4" + Check.times(" ", 388, ""), 1);
        e.shopFault(Check.times(" ", 399, "") + "5", 399, 0);
        e.shopFault(Check.times(" ", 400, ""), 400, 0);
        e.shopFault(Check.times(" ", 396, "") + "bale", 400, 0);
        e.shopFault(Check.times(" ", 387, "") + "bale 7 6 5 4;", 400, 0);
    }

    @Sentence(promise = 4, says = "CLAUSE { ; CLAUSE }, 32 at most")
    static void clausesAndSemicolons(Edge e) {
        e.shop(BALE, 1);
        e.shop(full(32), 12);
        e.shop(" " + BALE + " ; thumb 1 ", 1);
        e.shopFault(";" + BALE, 0, 0);
        e.shopFault(BALE + ";", 13, 0);
        e.shopFault(BALE + ";;" + BALE, 13, 0);
        e.shopFault(BALE + " " + BALE, 13, 0);
        e.shopFault(BALE + "," + BALE, 12, 0);
    }

    /** As many CLAUSES, up to 33, of which none is one too many of its kind. */
    private static String full(int clauses) {
        String[] others = {"thumb 1", "askew 1", "board 1", "pair 1 1", "form 1 1 1"};
        StringBuilder all = new StringBuilder(bales(12) + ";" + Check.times("flaw 0 0", 16, ";"));
        for (int i = 28; i < clauses; i++) {
            all.append(';').append(others[i - 28]);
        }
        return all.toString();
    }

    // ---- the NUMBERS of each CLAUSE

    @Sentence(promise = 4, says = "EIGHTHS 1 to 480")
    static void eighthsOfABale(Edge e) {
        e.shopFault("bale 0 1 0 0", 5, 1);
        e.shop("bale 1 1 0 0", 1);
        e.shop("bale 480 1 0 0", 1);
        e.shopFault("bale 481 1 0 0", 5, 1);
        e.shopFault("bale 99999 1 0 0", 5, 1);
        e.due("EIGHTHS", Check.with("bale 480 1 0 0").bale(0, 0), 480);
    }

    @Sentence(promise = 4, says = "width 1 to 99")
    static void widthOfABale(Edge e) {
        e.shopFault("bale 1 0 0 0", 7, 1);
        e.shop("bale 1 1 0 0", 1);
        e.shop("bale 1 99 0 0", 1);
        e.shopFault("bale 1 100 0 0", 7, 1);
        e.due("width", Check.with("bale 1 99 0 0").bale(0, 1), 99);
    }

    @Sentence(promise = 4, says = "lot 0 to 9")
    static void lotOfABale(Edge e) {
        e.shop("bale 1 1 0 0", 1);
        e.shop("bale 1 1 9 0", 1);
        e.shopFault("bale 1 1 10 0", 9, 1);
        e.due("lot", Check.with("bale 1 1 9 0").bale(0, 2), 9);
    }

    @Sentence(promise = 4, says = "stripe 0 to 96: eighths from one stripe to the next alike one; 0 without")
    static void stripeOfABale(Edge e) {
        e.shop("bale 1 1 0 0", 1);
        e.shop("bale 1 1 0 96", 1);
        e.shopFault("bale 1 1 0 97", 11, 1);
        e.due("stripe", Check.with("bale 1 1 0 96").bale(0, 3), 96);
        e.due("meet without a stripe", Check.with("bale 1 1 0 0").meet(0, 1, 1, 0), -1);
        e.due("meet with one", Check.with("bale 1 1 0 1").meet(0, 1, 1, 0), 1);
    }

    @Sentence(promise = 4, says = "a BALE that was told")
    static void flawsOfToldBales(Edge e) {
        e.shopFault("flaw 0 0;" + BALE, 5, 1);
        e.shop(BALE + ";flaw 0 0", 1);
        e.shopFault(BALE + ";flaw 1 0", 18, 1);
        e.shopFault(BALE + ";flaw 1 0;" + BALE, 18, 1);
        e.shop(BALE + ";" + BALE + ";flaw 1 0", 2);
        e.shop(bales(12) + ";flaw 11 0", 12);
        e.shopFault(bales(12) + ";flaw 12 0", 161, 1);
    }

    @Sentence(promise = 4, says = "in which EIGHTH from its open end, 0 and above, below how many it has")
    static void placesOfFlaws(Edge e) {
        e.shop("bale 5 1 0 0;flaw 0 0", 1);
        e.shop("bale 5 1 0 0;flaw 0 4", 1);
        e.shopFault("bale 5 1 0 0;flaw 0 5", 20, 1);
        e.shop("bale 1 1 0 0;flaw 0 0", 1);
        e.shopFault("bale 1 1 0 0;flaw 0 1", 20, 1);
        e.shopFault("bale 9 1 0 0;bale 5 1 0 0;flaw 1 5", 33, 1);
        e.shop("bale 9 1 0 0;bale 5 1 0 0;flaw 0 5", 2);
        e.shop("bale 480 1 0 0;flaw 0 479", 1);
        e.shopFault("bale 480 1 0 0;flaw 0 480", 22, 1);
        ClothEnds x = Check.with("bale 480 1 0 0;flaw 0 479");
        e.due("no FLAW ahead of it", x.cut(0, 479), 0);
        e.due("the last EIGHTH", x.cut(0, 1), 1);
    }

    @Sentence(promise = 4, says = "thumb NUMBER | askew NUMBER (0 to 8 each; once at most, 0 without)")
    static void thumbAndAskew(Edge e) {
        String[] words = {"thumb", "askew"};
        for (int i = 0; i < 2; i++) {
            e.shop(BALE + ";" + words[i] + " 0", 1);
            e.shopFault(BALE + ";" + words[i] + " 9", 19, 1);
            e.shopFault(BALE + ";" + words[i] + " 0;" + words[i] + " 0", 21, 4);
            e.due(words[i] + " 8", Check.with(BALE + ";" + words[i] + " 8").count(14 + i), 8);
            e.due("the other", Check.with(BALE + ";" + words[i] + " 8").count(15 - i), 0);
            e.due("the board", Check.with(BALE + ";" + words[i] + " 8").count(16), 0);
            e.due("without", Check.with(BALE).count(14 + i), 0);
        }
        ClothEnds x = Check.with(BALE);
        x.cut(0, 2);
        x.tear(0, 2);
        e.due("nothing LOST without", x.count(3), 0);
    }

    @Sentence(promise = 4, says = "board NUMBER (0 to 80; once at most, 0 without)")
    static void board(Edge e) {
        e.shop(BALE + ";board 0", 1);
        e.shop(BALE + ";board 80", 1);
        e.shopFault(BALE + ";board 81", 19, 1);
        e.shopFault(BALE + ";board 0;board 0", 21, 4);
        e.due("board 80", Check.with(BALE + ";board 80").count(16), 80);
        e.due("without", Check.with(BALE).count(16), 0);
        e.due("no END without", Check.with("bale 1 1 0 0").bale(0, 6), 0);
    }

    @Sentence(promise = 4, says = "form NUMBER NUMBER NUMBER (length 1 to 80, width 1 to 99, WORTH 0 to 999)")
    static void forms(Edge e) {
        e.shopFault("form 0 1 0;" + BALE, 5, 1);
        e.shopFault("form 81 1 0;" + BALE, 5, 1);
        e.shopFault("form 1 0 0;" + BALE, 7, 1);
        e.shopFault("form 1 100 0;" + BALE, 7, 1);
        e.shopFault("form 1 1 1000;" + BALE, 9, 1);
        e.shop("form 1 1 0;" + BALE, 1);
        ClothEnds x = Check.with("form 80 99 999;" + BALE);
        e.due("madeOf(80, 99, 0)", x.madeOf(80, 99, 0), 999);
        e.due("madeOf(79, 99, 0)", x.madeOf(79, 99, 0), 0);
        e.due("madeOf(80, 98, 0)", x.madeOf(80, 98, 0), 0);
        e.due("WORTH 0", Check.with("form 1 1 0;" + BALE).madeOf(1, 1, 1), 0);
        x = Check.with("form 2 9 1;bale 2 1 0 0;bale 2 1 0 0;board 80");
        x.basket(0);
        x.basket(1);
        e.due("a FORM is no pair", x.made(), 0);
    }

    @Sentence(promise = 4, says = "pair NUMBER NUMBER (length 1 to 80, WORTH 0 to 999; once at most)")
    static void pair(Edge e) {
        e.shopFault("pair 0 0;" + BALE, 5, 1);
        e.shopFault("pair 81 0;" + BALE, 5, 1);
        e.shopFault("pair 1 1000;" + BALE, 7, 1);
        e.shopFault("pair 1 0;pair 1 0;" + BALE, 9, 4);
        e.shop("pair 1 0;" + BALE, 1);
        ClothEnds x = Check.with("pair 80 999;bale 80 1 1 0;bale 80 1 1 0;board 80");
        x.basket(0);
        x.basket(1);
        e.due("made", x.made(), 999);
    }

    @Sentence(promise = 4, says = "BALES 0 to 11, FLAWS 16 at most, FORMS 0 to 7, in the order told")
    static void inTheOrderTold(Edge e) {
        StringBuilder text = new StringBuilder();
        for (int i = 0; i < 12; i++) {
            text.append("bale ").append(10 + i).append(" 1 0 0;");
        }
        ClothEnds x = Check.with(text + "thumb 1");
        for (int i = 0; i < 12; i++) {
            e.dueBale(x, i, 10 + i);
        }
        e.dueBale(x, 12, -1);
        text = new StringBuilder(BALE);
        for (int i = 0; i < 8; i++) {
            text.append(";form 1 ").append(99 - i).append(' ').append(90 - i);
        }
        x = Check.with(text.toString());
        e.due("FORM 0", x.madeOf(1, 99, 1), 0);
        e.due("FORM 7", x.madeOf(1, 92, 1), 7);
        e.due("its WORTH", x.madeOf(1, 92, 0), 83);
        e.due("none", x.madeOf(1, 91, 1), -2);
        x = Check.with("bale 1 1 0 0;bale 2 2 2 2;bale 9 9 9 9");
        for (int i = 0; i < 3; i++) {
            e.due("no FLAWS are told", x.bale(i, 4), 0);
        }
        x = Check.with(BALE + ";" + Check.times("flaw 0 8", 16, ";"));
        e.due("FLAWS", x.bale(0, 4), 16);
    }

    @Sentence(promise = 4, says = "at least one BALE")
    static void withoutABale(Edge e) {
        e.shopFault("thumb 0", 7, 0);
        e.shopFault("form 1 1 1;pair 1 1;board 1", 27, 0);
        e.shop("thumb 0;" + BALE, 1);
    }

    // ---- FAULTS

    @Sentence(promise = 4, says = "FAULTS, the first along the text, 1 + 8 * its place and")
    static void theFirstAlongTheText(Edge e) {
        ClothEnds x = new ClothEnds();
        e.due("the first byte, kind 0", Check.shop(x, "?"), -3);
        e.due("the second byte, kind 0", Check.shop(x, " ?"), -11);
        e.due("the ninth byte, kind 1", Check.shop(x, "bale 1 1 99 0"), -2 - (1 + 8 * 9 + 1));
        e.due("the ninth byte, kind 4", Check.shop(x, "thumb 1;thumb 1"), -2 - (1 + 8 * 8 + 4));
        e.shopFault("bale 0 0 10 97", 5, 1);
        e.shopFault("bale 1 0 10 97", 7, 1);
        e.shopFault("bale 1 1 10 97", 9, 1);
        e.shopFault("thumb 9;thumb 1;?", 6, 1);
        e.shopFault("thumb 8;thumb 1;?", 8, 4);
        e.shopFault("thumb 8;?;thumb 9", 8, 0);
        e.shopFault(bales(13) + ";bale 0", 156, 4);
        e.shopFault("bale 0 1 0 0;" + bales(13), 5, 1);
        e.shopFault(Check.times(" ", 399, "") + "?", 399, 0);
    }

    @Sentence(promise = 4, says = "0 a byte or word that can't stand there")
    static void bytesAndWords(Edge e) {
        e.shopFault("bales 1 1 0 0", 0, 0);
        e.shopFault("bal", 0, 0);
        e.shopFault("b", 0, 0);
        e.shopFault("Bale 1 1 0 0", 0, 0);
        e.shopFault("balE 1 1 0 0", 0, 0);
        e.shopFault("from 1", 0, 0);
        e.shopFault("baleflaw", 0, 0);
        e.shopFault("7", 0, 0);
        e.shopFault("`bale 1 1 0 0", 0, 0);
        e.shopFault("{bale 1 1 0 0", 0, 0);
        e.shopFault("bale{ 1 1 0 0", 4, 0);
        e.shopFault("bale` 1 1 0 0", 4, 0);
        e.shopFault("bale one", 5, 0);
        e.shopFault("bale -1 1 0 0", 5, 0);
        e.shopFault("bale / 1 0 0", 5, 0);
        e.shopFault("bale : 1 0 0", 5, 0);
        e.shopFault("bale 1: 1 0 0", 6, 0);
        e.shopFault("bale 1/ 1 0 0", 6, 0);
        e.shopFault("bale 1 1 0;", 10, 0);
        e.shopFault("bale 1 1 0 0 0", 13, 0);
        e.shopFault("bale 1 1 0 0 x", 13, 0);
        e.shopFault("bale 1 1 0 0:", 12, 0);
        e.shopFault(BALE + (char) 0, 12, 0);
        e.shopFault(BALE + (char) 10, 12, 0);
        e.shopFault(BALE + (char) 31, 12, 0);
        e.shopFault(BALE + (char) 33, 12, 0);
        e.shopFault(BALE + (char) 160, 12, 0);
        e.shopFault(BALE + (char) 255, 12, 0);
        e.shopFault("flaw" + (char) 9 + "0 0", 4, 0);
        e.shopFault("thumb;", 5, 0);
        e.shopFault("thumb 1 1;" + BALE, 8, 0);
        e.shopFault("pair 1;" + BALE, 6, 0);
        e.shopFault("form 1 1;" + BALE, 8, 0);
        e.shopFault(BALE + ";flaw 0;", 19, 0);
    }

    @Sentence(promise = 4, says = "or the end (behind the last byte; also without a BALE)")
    static void theEnd(Edge e) {
        e.shopFault("", 0, 0);
        e.shopFault(" ", 1, 0);
        e.shopFault("bale", 4, 0);
        e.shopFault("bale ", 5, 0);
        e.shopFault("bale 1", 6, 0);
        e.shopFault("bale 1 1 0", 10, 0);
        e.shopFault("bale 1 1 0   ", 13, 0);
        e.shopFault(BALE + ";", 13, 0);
        e.shopFault(BALE + "; ", 14, 0);
        e.shopFault(BALE + ";flaw", 17, 0);
        e.shopFault(BALE + ";flaw 0", 19, 0);
        e.shopFault("thumb", 5, 0);
        e.shopFault("askew", 5, 0);
        e.shopFault("board", 5, 0);
        e.shopFault("form 1 1", 8, 0);
        e.shopFault("pair 1", 6, 0);
        e.shopFault("thumb 1", 7, 0);
        e.shopFault("thumb 1  ", 9, 0);
    }

    @Sentence(promise = 4, says = "1 a NUMBER of more digits (5 at most)")
    static void digits(Edge e) {
        e.shop("bale 00001 00099 00009 00096", 1);
        e.shopFault("bale 000001 1 0 0", 5, 1);
        e.shopFault("bale 1 1 0 000000", 11, 1);
        e.shopFault("thumb 000000", 6, 1);
        e.shopFault(BALE + ";flaw 000000 0", 18, 1);
        e.shopFault(BALE + ";flaw 0 000000", 20, 1);
        // round in 32 bits this would be 1, in 64 bits too
        e.shopFault("bale 4294967297 1 0 0", 5, 1);
        e.shopFault("bale 18446744073709551617 1 0 0", 5, 1);
        e.shopFault("bale " + Check.times("9", 395, ""), 5, 1);
        e.shopFault("bale " + Check.times("0", 395, ""), 5, 1);
    }

    @Sentence(promise = 4, says = "or not as told (at it)")
    static void notAsTold(Edge e) {
        e.shopFault("bale   481 1 0 0", 7, 1);
        e.shopFault("bale 1   100 0 0", 9, 1);
        e.shopFault("bale0 1 0 0", 4, 1);
        e.shopFault("thumb9", 5, 1);
        e.shopFault("board  99999", 7, 1);
        e.shopFault("bale 00481 1 0 0", 5, 1);
        e.shopFault("bale 0", 5, 1);
        e.shopFault("bale 481;", 5, 1);
    }

    @Sentence(promise = 4, says = "4 one CLAUSE too many")
    static void a33rdClause(Edge e) {
        int at = full(32).length() + 1;
        e.shopFault(full(33), at, 4);
        e.shopFault(full(32) + ";  form 1 1 1", at + 2, 4);
        e.shopFault(full(32) + ";form 0 0 0", at, 4);
        e.shopFault(full(32) + ";form", at, 4);
    }

    @Sentence(promise = 4, says = "a 13th BALE")
    static void a13thBale(Edge e) {
        e.shop(bales(12), 12);
        e.shopFault(bales(13), 156, 4);
        e.shopFault(bales(12) + "; bale", 157, 4);
        e.shopFault("thumb 1;" + bales(12) + ";bale 0", 164, 4);
        e.shop(bales(12) + ";thumb 1", 12);
    }

    @Sentence(promise = 4, says = "a 17th FLAW")
    static void a17thFlaw(Edge e) {
        String sixteen = BALE + ";" + Check.times("flaw 0 8", 16, ";");
        e.shop(sixteen, 1);
        e.shopFault(sixteen + ";flaw 0 8", sixteen.length() + 1, 4);
        e.shopFault(sixteen + ";flaw 9 9", sixteen.length() + 1, 4);
        e.shop(sixteen + ";" + BALE, 2);
    }

    @Sentence(promise = 4, says = "a ninth FORM")
    static void aNinthForm(Edge e) {
        String eight = BALE + ";" + Check.times("form 1 1 1", 8, ";");
        e.shop(eight, 1);
        e.shopFault(eight + ";form 1 1 1", eight.length() + 1, 4);
        e.shopFault(eight + ";form 0 0 0", eight.length() + 1, 4);
        e.shop(eight + ";pair 1 1", 1);
    }

    @Sentence(promise = 4, says = "a second thumb, askew, board or pair (at its first byte)")
    static void aSecondOfThese(Edge e) {
        for (String one : new String[] {"thumb 1", "askew 1", "board 1", "pair 1 1"}) {
            String text = BALE + ";" + one + ";";
            e.shopFault(text + one, text.length(), 4);
            e.shopFault(text + "   " + one, text.length() + 3, 4);
            e.shopFault(text + one.substring(0, 5), text.length(), 4);
            String all = BALE + ";thumb 1;askew 1;board 1;pair 1 1;";
            e.shopFault(all + one, all.length(), 4);
        }
    }

    @Sentence(promise = 4, says = "Of one place the least.")
    static void ofOnePlaceTheLeast(Edge e) {
        int at = full(32).length() + 1;
        e.shopFault(full(32) + ";", at, 0);
        e.shopFault(full(32) + ";?", at, 0);
        e.shopFault(full(32) + ";formed", at, 0);
        e.shopFault(full(32) + ";7", at, 0);
        e.shopFault(full(32) + ";thumb 1", at, 4);
        e.shopFault(full(32) + ";;", at, 0);
    }
}
