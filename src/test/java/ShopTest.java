/** Promise 4: shop, and the language of SHOPS. */
public final class ShopTest {
    private static final Check check = new Check("ShopTest");

    public static void main(String[] args) {
        accepted();
        numbers();
        bytesAndWords();
        ends();
        tooMany();
        leastOfAPlace();
        inPlaceOfAnother();
        faultChangesNothing();
        oneBehindAnother();
        check.done();
    }

    private static void shop(String text, int want) {
        check.due("shop of '" + text + "'", Check.shop(new ClothEnds(), text), want);
    }

    private static void refused(String text, int place, int kind) {
        shop(text, Check.fault(place, kind));
    }

    private static void accepted() {
        shop("bale 1 1 0 0", 1);
        shop("bale 480 99 9 96", 1);
        shop("  bale  00480   99 9 96  ;  thumb 0 ; askew 8;board 80 ", 1);
        shop("bale1 1 1 1;flaw0 0;form1 1 0;pair1 0", 1);
        shop("thumb 8;askew 0;board 0;form 80 99 999;pair 80 999;bale 2 2 2 2", 1);
        shop(Check.times("bale 1 1 1 1", 12, ";"), 12);
        shop("bale 9 9 9 9;" + Check.times("flaw 0 8", 16, ";"), 1);
        shop(full() + ";form 1 1 1", 12);
        ClothEnds x = Check.with("bale 9 8 7 6;thumb 3;askew 4;board 5;bale 1 2 3 0;flaw 0 8;flaw 1 0;flaw 0 8");
        check.due("thumb", x.count(14), 3);
        check.due("askew", x.count(15), 4);
        check.due("board", x.count(16), 5);
        check.due("BALES", x.count(0), 2);
        check.due("EIGHTHS", x.bale(1, 0), 1);
        check.due("width", x.bale(1, 1), 2);
        check.due("lot", x.bale(1, 2), 3);
        check.due("stripe", x.bale(1, 3), 0);
        check.due("two FLAWS in one EIGHTH", x.bale(0, 4), 2);
        check.due("FLAW of the other", x.bale(1, 5), 0);
    }

    /** 31 CLAUSES, as short as they can be. */
    private static String full() {
        return Check.times("bale 1 1 1 1", 12, ";") + ";" + Check.times("flaw 0 0", 16, ";")
            + ";thumb 1;askew 1;board 1";
    }

    private static void numbers() {
        refused("bale 0 1 0 0", 5, 1);
        refused("bale 481 1 0 0", 5, 1);
        refused("bale 000001 1 0 0", 5, 1);
        refused("bale 1 0 0 0", 7, 1);
        refused("bale 1 100 0 0", 7, 1);
        refused("bale 1 1 10 0", 9, 1);
        refused("bale 1 1 0 97", 11, 1);
        refused("bale 1 1 0 99999999999999999999", 11, 1);
        refused("bale 1 1 0 4294967297", 11, 1);
        refused("flaw 0 0;bale 1 1 0 0", 5, 1);
        refused("bale 5 1 0 0;flaw 1 0", 18, 1);
        refused("bale 5 1 0 0;flaw 0 5", 20, 1);
        refused("bale 5 1 0 0;bale 4 1 0 0;flaw 1 4", 33, 1);
        shop("bale 5 1 0 0;flaw 0 4", 1);
        refused("thumb 9", 6, 1);
        refused("askew 9", 6, 1);
        refused("board 81", 6, 1);
        refused("form 0 1 1", 5, 1);
        refused("form 81 1 1", 5, 1);
        refused("form 1 0 1", 7, 1);
        refused("form 1 100 1", 7, 1);
        refused("form 1 1 1000", 9, 1);
        refused("pair 0 1", 5, 1);
        refused("pair 81 1", 5, 1);
        refused("pair 1 1000", 7, 1);
    }

    private static void bytesAndWords() {
        refused("bales", 0, 0);
        refused("  ball 1", 2, 0);
        refused("Bale 1 1 0 0", 0, 0);
        refused("bale a", 5, 0);
        refused("bale -1 1 0 0", 5, 0);
        refused("bale 1,1 0 0", 6, 0);
        refused("bale 1 1 0 0 0", 13, 0);
        refused("bale 1 1 0 0 bale", 13, 0);
        refused("bale 1 1 0;bale", 10, 0);
        refused("bale 1 1 0 0,", 12, 0);
        refused("bale 1 1 0 0;;", 13, 0);
        refused(";bale 1 1 0 0", 0, 0);
        refused("bale 1 1 0 0" + (char) 0, 12, 0);
        refused("bale" + (char) 9 + "1 1 0 0", 4, 0);
        refused("5", 0, 0);
        refused("thumbaskew 1", 0, 0);
        refused("from left", 0, 0);
    }

    private static void ends() {
        refused("", 0, 0);
        refused("   ", 3, 0);
        refused("bale", 4, 0);
        refused("bale  ", 6, 0);
        refused("bale 1 1 0", 10, 0);
        refused("bale 1 1 0 0;", 13, 0);
        refused("bale 1 1 0 0; ", 14, 0);
        refused("thumb 1", 7, 0);
        refused("thumb 1  ", 9, 0);
        refused("form 1 1 1;pair 1 1", 19, 0);
    }

    private static void tooMany() {
        refused(Check.times("bale 1 1 0 0", 13, ";"), 156, 4);
        refused(Check.times("bale 1 1 0 0", 12, ";") + ";bale", 156, 4);
        refused("bale 9 9 9 9;" + Check.times("flaw 0 8", 17, "; "), 13 + 16 * 10, 4);
        refused(Check.times("form 1 1 1", 9, ";"), 88, 4);
        refused("thumb 0;thumb 0", 8, 4);
        refused("askew 0; askew 0", 9, 4);
        refused("board 0;board", 8, 4);
        refused("pair 1 0;pair 1 0", 9, 4);
        int at = full().length() + 1;
        refused(full() + ";form 1 1 1;form 1 1 1", at + 11, 4);
        refused(full() + ";form 1 1 1;pair", at + 11, 4);
        refused(full() + ";form 1 1 1;thumb", at + 11, 4);
    }

    private static void leastOfAPlace() {
        int at = full().length() + 1;
        refused(full() + ";form 1 1 1;fork", at + 11, 0);
        refused(full() + ";form 1 1 1;", at + 11, 0);
        refused(full() + ";form 1 1 1 1", at + 11, 0);
    }

    private static void inPlaceOfAnother() {
        ClothEnds x = Check.with("bale 20 5 1 2;bale 9 5 1 2;thumb 1;board 9;askew 1");
        Check.rule(x, "from left;give 1=1");
        x.serve(0, 15);
        x.serve(0, 15);
        x.serve(0, 99);
        x.basket(0);
        x.basket(1);
        x.known(5);
        x.entry(1, 5);
        x.level(1, 5);
        x.weight(1, 9);
        x.weight(8, 9);
        x.day(0, 1, 1);
        x.image(3);
        int drawn = x.count(9);
        int[] reasons = {x.status(0), x.status(1), x.status(2)};
        check.due("shop", Check.shop(x, "bale 7 1 1 1;form 1 1 3"), 1);
        for (int what : new int[] {2, 3, 4, 5, 6, 8, 10, 11, 12, 13, 14, 15, 16}) {
            check.due("count(" + what + ") of a new SHOP", x.count(what), 0);
        }
        check.due("count(0)", x.count(0), 1);
        check.due("count(1)", x.count(1), 1);
        check.due("count(7)", x.count(7), 7);
        check.due("x", x.count(9), drawn);
        for (int n = 1; n <= 8; n++) {
            check.due("WEIGHT", x.weight(n, 0), 0);
        }
        for (int reason = 0; reason < 3; reason++) {
            check.due("status", x.status(reason), reasons[reason]);
        }
        check.due("rod", x.rod(0, 0), 96);
        check.due("form", x.madeOf(2, 1, 0), 6);
        check.due("image", x.back(3), 1);
        check.due("BALES of the image", x.count(0), 2);
        check.due("no form in the image", x.madeOf(2, 1, 0), 0);
    }

    private static void faultChangesNothing() {
        ClothEnds x = Check.with("bale 20 5 1 2;thumb 1;flaw 0 3;form 2 2 2;pair 1 1");
        x.cut(0, 2);
        x.known(3);
        check.due("shop", Check.shop(x, "bale 3 3 3 3;bale 4 4 4 4;thumb 2;flaw 1 9"), Check.fault(41, 1));
        check.due("the TAPE", x.count(10), 0);
        check.due("BALES", x.count(0), 1);
        check.due("EIGHTHS", x.bale(0, 0), 17);
        check.due("FLAW", x.bale(0, 5), 0);
        check.due("thumb", x.count(14), 1);
        check.due("SOLD", x.count(2), 2);
        check.due("KNOWN", x.count(11), 1);
        check.due("form", x.madeOf(5, 2, 0), 4);
        check.due("STATUS", x.status(0) + x.status(1) + x.status(2), 0);
    }

    /** What a text told is no part of the next one. */
    private static void oneBehindAnother() {
        ClothEnds x = Check.with("bale 20 5 1 2;bale 9 5 1 2;bale 9 5 1 2;thumb 1;board 9;askew 1;flaw 0 3;flaw 1 0;"
            + "form 1 1 1;form 1 1 9;pair 1 99");
        check.due("without a BALE", Check.shop(x, "thumb 2"), Check.fault(7, 0));
        check.due("ahead of a BALE", Check.shop(x, "flaw 0 0;bale 1 1 1 1"), Check.fault(5, 1));
        check.due("twelve", Check.shop(x, Check.times("bale 1 1 1 1", 13, ";")), Check.fault(156, 4));
        check.due("EIGHTHS of the old one", Check.shop(x, "bale 1 1 1 1;flaw 0 3"), Check.fault(20, 1));
        check.due("BALES", x.count(0), 3);
        check.due("shop", Check.shop(x, "bale 5 1 1 1;bale 5 1 1 1;board 5"), 2);
        check.due("no FLAW", x.bale(0, 4) + x.bale(1, 4), 0);
        check.due("no thumb", x.count(14), 0);
        check.due("no askew", x.count(15), 0);
        check.due("no FORM", x.madeOf(9, 9, 1), -2);
        x.basket(0);
        x.basket(1);
        check.due("no pair", x.made(), 0);
        check.due("no third BALE", x.bale(2, 0), -1);
        check.due("shop", Check.shop(x, "bale 7 1 1 1;pair 2 8;form 1 1 2;flaw 0 6;askew 4"), 1);
        check.due("FLAW", x.bale(0, 5), 6);
        check.due("board", x.count(16), 0);
        check.due("FORM", x.madeOf(3, 9, 0), 6);
    }
}
