/** Promises 1 to 3: a new object, feed, end. */
public final class TapeTest {
    private static final Check check = new Check("TapeTest");

    public static void main(String[] args) {
        newObject();
        feedAndEnd();
        fullTape();
        bytesInOrder();
        cutWords();
        check.done();
    }

    private static void newObject() {
        ClothEnds x = new ClothEnds();
        for (int what = 0; what <= 16; what++) {
            check.due("count(" + what + ") of a new object", x.count(what), 0);
        }
        for (int reason = 0; reason < 3; reason++) {
            check.due("status of a new object", x.status(reason), 0);
        }
        check.due("bale", x.bale(0, 0), -1);
        check.due("ends", x.ends(0, 0), -1);
        check.due("NONE", ClothEnds.NONE, -1);
        check.due("serve", x.serve(0, 1), -2);
        check.due("back", x.back(0), -2);
        check.due("lots", x.lots(1, 1), 0);
        check.due("sale", x.sale(1, 1, 0, 0), -1);
        check.due("which without WEIGHTS", x.which(1, 0, 0), -2);
    }

    private static void feedAndEnd() {
        ClothEnds x = new ClothEnds();
        check.due("end(1) of an empty TAPE", x.end(1), -1);
        check.due("end(0) of an empty TAPE", x.end(0), 0);
        check.due("feed", x.feed(1, 2, 3, 4, 5), 20);
        check.due("feed", x.feed(-1, -2, -3, -4, -5), 40);
        check.due("count(10)", x.count(10), 40);
        check.due("end(41)", x.end(41), -1);
        check.due("end(-1)", x.end(-1), -1);
        check.due("end(min)", x.end(Integer.MIN_VALUE), -1);
        check.due("end(max)", x.end(Integer.MAX_VALUE), -1);
        check.due("count(10)", x.count(10), 40);
        check.due("end(40)", x.end(40), 40);
        check.due("end(7)", x.end(7), 7);
        check.due("count(10)", x.count(10), 7);
        check.due("feed", x.feed(0, 0, 0, 0, 0), 27);
        check.due("status(0)", x.status(0) + x.status(1) + x.status(2), 0);
    }

    private static void fullTape() {
        ClothEnds x = new ClothEnds();
        for (int i = 1; i <= 20; i++) {
            check.due("feed", x.feed(0, 0, 0, 0, 0), 20 * i);
        }
        check.due("feed beyond 400", x.feed(0, 0, 0, 0, 0), -1);
        check.due("count(10)", x.count(10), 400);
        check.due("end(381)", x.end(381), 381);
        check.due("feed beyond 400", x.feed(0, 0, 0, 0, 0), -1);
        check.due("count(10)", x.count(10), 381);
        check.due("end(380)", x.end(380), 380);
        check.due("feed up to 400", x.feed(0, 0, 0, 0, 0), 400);
        check.due("status(2)", x.status(2), 0);
    }

    /** The bytes are those of the numbers, the highest first, and all 400 are read. */
    private static void bytesInOrder() {
        ClothEnds x = new ClothEnds();
        x.feed(0x62616c65, 0x34312032, 0x20332034, 0x20202020, 0x20202020);
        check.due("shop", x.shop(), 1);
        check.due("EIGHTHS", x.bale(0, 0), 41);
        check.due("width", x.bale(0, 1), 2);
        check.due("lot", x.bale(0, 2), 3);
        check.due("stripe", x.bale(0, 3), 4);
        String text = Check.times(" ", 388, "") + "bale 7 7 7 7";
        check.due("a text of 400", Check.shop(x, text), 1);
        check.due("lot", x.bale(0, 2), 7);
        check.due("high bytes", Check.shop(x, "bale 1 1 1 1" + (char) 186), Check.fault(12, 0));
    }

    /** What was behind the TAPE's end is gone, though a word or NUMBER went on there. */
    private static void cutWords() {
        ClothEnds x = new ClothEnds();
        Check.tape(x, "bale 1 1 1 12");
        x.end(12);
        check.due("shop", x.shop(), 1);
        check.due("stripe", x.bale(0, 3), 1);
        Check.tape(x, "from left");
        x.end(8);
        check.due("rule", x.rule(), Check.fault(5, 0));
        Check.tape(x, "from lefts  +1");
        x.end(9);
        check.due("rule", x.rule(), 0);
        Check.tape(x, "from  left");
        x.end(5);
        check.due("rule", x.rule(), Check.fault(5, 0));
        Check.tape(x, "from 123456");
        x.end(10);
        check.due("rule", x.rule(), 1);
        Check.tape(x, "give 1<=1");
        x.end(7);
        check.due("rule", x.rule(), Check.fault(7, 0));
    }
}
