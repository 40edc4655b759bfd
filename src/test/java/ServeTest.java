/** Promises 12 to 14: serve, day, days. */
public final class ServeTest {
    private static final Check check = new Check("ServeTest");

    public static void main(String[] args) {
        leastSum();
        clauses();
        given();
        wordsAheadOfTheCut();
        refusals();
        aDay();
        dayIsAWord();
        aRow();
        wrongRows();
        check.done();
    }

    private static ClothEnds ruled(String shop, String rule) {
        ClothEnds x = Check.with(shop);
        check.due("rule", Check.rule(x, rule), 0);
        return x;
    }

    private static void leastSum() {
        ClothEnds x = ruled("bale 9 5 0 0;bale 7 4 0 0;bale 7 4 0 0;bale 3 3 0 0;thumb 1", "from width");
        check.due("the least that has so many", x.serve(0, 3), 3);
        check.due("of several the least", x.serve(0, 7), 1);
        check.due("the next", x.serve(0, 7), 2);
        check.due("the last", x.serve(0, 4), 0);
        check.due("SOLD", x.count(2), 21);
        check.due("LOST", x.count(3), 1);
        check.due("left", x.count(7), 4);
        ClothEnds y = ruled("bale 9 5 0 0;bale 8 4 0 0", "from 0-left");
        check.due("a SUM below 0", y.serve(0, 2), 0);
        check.due("a SUM below 0", y.serve(0, 2), 1);
    }

    private static void clauses() {
        ClothEnds x = ruled("bale 9 1 0 0;bale 9 2 0 0;bale 9 3 0 0",
            "from 5 if width=1;from 3 if width=2;from 1 if width=2;from 4 if width=3;give 1=1");
        check.due("the first CLAUSE whose TEST holds", x.serve(0, 5), 1);
        check.due("then", x.serve(0, 5), 2);
        check.due("then", x.serve(0, 5), 0);
        ClothEnds y = ruled("bale 9 1 0 0;bale 9 2 0 0", "from 9 if width=1;from 5;from 1 if width=2");
        check.due("without a TEST it is taken", y.serve(0, 5), 1);
        ClothEnds z = ruled("bale 9 1 0 0;bale 9 2 0 0", "from 0 if width=2 and left>5");
        check.due("serve", z.serve(0, 4), 1);
        check.due("without a CLAUSE it is not taken", z.serve(0, 4), -2);
        ClothEnds v = ruled("bale 9 1 0 0", "give 1=1");
        check.due("without a from CLAUSE", v.serve(0, 4), -2);
        check.due("REFUSED", v.count(5), 1);
    }

    private static void given() {
        String shop = "bale 20 1 0 0;thumb 1;board 5;flaw 0 19";
        ClothEnds x = ruled(shop, "from 0;give order>30;give rest<6");
        check.due("serve", x.serve(0, 13), 0);
        check.due("6 are no END", x.bale(0, 0), 6);
        check.due("GIVEN", x.count(4), 0);
        check.due("serve", x.serve(0, 1), 0);
        check.due("GIVEN", x.count(4), 4);
        check.due("it has 0 then", x.bale(0, 0), 0);
        check.due("no FLAW", x.bale(0, 4), 0);
        check.due("SOLD", x.count(2), 14);
        check.due("LOST", x.count(3), 2);
        check.due("BASKET", x.count(6), 0);
        ClothEnds w = ruled("bale 9 1 0 0;bale 9 5 0 0;board 9", "from width;give width=1");
        check.due("the WORDS are of the BALE that is CUT", w.serve(0, 2) + w.count(4), 7);
        ClothEnds y = ruled(shop, "from 0;give rest<4");
        check.due("serve", y.serve(0, 14), 0);
        check.due("GIVEN", y.count(4), 0);
        check.due("the END stays", y.bale(0, 6), 1);
        ClothEnds z = ruled(shop, "from 0");
        check.due("serve", z.serve(0, 15), 0);
        check.due("without give", z.bale(0, 0), 4);
        ClothEnds v = ruled(shop, "from 0;give 1=1");
        check.due("serve", v.serve(0, 19), 0);
        check.due("nothing is no END", v.count(4), 0);
    }

    private static void wordsAheadOfTheCut() {
        ClothEnds x = ruled("bale 20 1 0 0;thumb 1;board 9;flaw 0 3",
            "from 0;give left=20 and rest=5 and flaws=1 and order=14");
        check.due("serve", x.serve(0, 14), 0);
        check.due("GIVEN", x.count(4), 5);
    }

    private static void refusals() {
        ClothEnds x = ruled("bale 9 1 0 0", "from 0");
        int[][] untold = {{1, 1}, {-1, 1}, {6, 1}, {0, 0}, {0, 481}, {0, -1}};
        for (int i = 0; i < untold.length; i++) {
            check.due("serve", x.serve(untold[i][0], untold[i][1]), -2);
            check.due("status(0)", x.status(0), i + 1);
        }
        check.due("REFUSED", x.count(5), 0);
        check.due("status(1)", x.status(1), 0);
        check.due("serve(0, 480)", x.serve(0, 480), -2);
        check.due("status(1)", x.status(1), 1);
        check.due("REFUSED", x.count(5), 1);
        check.due("serve(0, 9)", x.serve(0, 9), 0);
        check.due("serve(0, 1)", x.serve(0, 1), -2);
        check.due("REFUSED", x.count(5), 2);
    }

    /** DRAWS from 0: 0, 21468, 27676, 12662, .. */
    private static void aDay() {
        ClothEnds x = ruled("bale 100 1 0 0;bale 100 2 0 0;thumb 1", "from width");
        int orders = 0;
        int lost = 0;
        long drawn = 0;
        for (int i = 0; i < 4; i++) {
            drawn = (drawn * 1103515245L + 12345) % 2147483648L;
            orders += 1 + drawn / 65536 % 10;
            lost++;
        }
        check.due("day", x.day(0, 4, 10), orders);
        check.due("SOLD", x.count(2), orders);
        check.due("LOST", x.count(3), lost);
        check.due("day", x.count(8), 1);
        check.due("x", x.count(9), drawn);
        check.due("the second BALE", x.bale(1, 0), 100);
        x.seed(12345);
        check.due("a DRAW of 21468", x.day(0, 1, 80), 1 + 21468 % 80);
        x.seed(2147483647);
        check.due("day", x.day(0, 1, 1), 1);
        check.due("x", x.count(9), (2147483647L * 1103515245L + 12345) % 2147483648L);
        ClothEnds y = ruled("bale 5 1 0 0", "from 0");
        check.due("one of each", y.day(0, 40, 1), 5);
        check.due("REFUSED", y.count(5), 35);
        check.due("status(1)", y.status(1), 35);
        check.due("status(0)", y.status(0), 0);
        check.due("a row of one DAY", y.days(0, 1, 7, 1, 3), 7);
        check.due("none is left", y.day(0, 3, 80), 0);
        check.due("REFUSED", y.count(5), 38);
        check.due("status(1)", y.status(1), 38);
        int[][] wrong = {{1, 1, 1}, {-1, 1, 1}, {0, 0, 1}, {0, 41, 1}, {0, 1, 0}, {0, 1, 81}};
        for (int i = 0; i < wrong.length; i++) {
            check.due("day", y.day(wrong[i][0], wrong[i][1], wrong[i][2]), -2);
            check.due("status(0)", y.status(0), i + 1);
        }
        check.due("day", y.count(8), 2);
    }

    private static void dayIsAWord() {
        ClothEnds x = ruled("bale 9 1 0 0;bale 9 2 0 0", "from 0 if day%2+1=width");
        check.due("serve on day 0", x.serve(0, 1), 0);
        x.day(0, 1, 1);
        check.due("serve on day 1", x.serve(0, 1), 1);
        check.due("a row goes on by days", x.days(0, 2, 40, 1, 3), 80 - 7 - 8);
    }

    private static void aRow() {
        String shop = "bale 300 1 0 0;bale 90 2 0 0;bale 80 3 0 0;thumb 1;board 12;flaw 0 3";
        ClothEnds x = ruled(shop, "from rest if rest>9 or rest<5;give rest<5");
        x.serve(0, 7);
        x.serve(0, 400);
        x.known(5);
        x.image(1);
        int[] before = new int[17];
        for (int what = 0; what < 17; what++) {
            before[what] = x.count(what);
        }
        int[] row = new int[5];
        for (int what = 0; what < 5; what++) {
            row[what] = x.days(0, 9, 4, 30, what);
        }
        for (int what = 0; what < 17; what++) {
            check.due("nothing happens: count(" + what + ")", x.count(what), before[what]);
        }
        check.due("nor by STATUS", x.status(1), 1);
        check.due("the FLAW", x.bale(0, 5), 3);
        int sold = 0;
        for (int i = 0; i < 9; i++) {
            sold += x.day(0, 4, 30);
        }
        check.due("SOLD", row[0], sold);
        check.due("SOLD", row[0], x.count(2) - before[2]);
        check.due("LOST", row[1], x.count(3) - before[3]);
        check.due("GIVEN", row[2], x.count(4) - before[4]);
        check.due("REFUSED", row[3], x.count(5) - before[5]);
        check.due("left", row[4], x.count(7));
        check.holds("the row has all of it", row[0] > 0 && row[1] > 0 && row[2] > 0 && row[3] > 0 && row[4] > 0);
    }

    private static void wrongRows() {
        ClothEnds x = ruled("bale 480 1 0 0", "from 0");
        check.due("30 DAYS of 1", x.days(0, 30, 16, 1, 0), 480);
        check.due("30 DAYS of 40", x.days(0, 30, 40, 1, 3), 720);
        int[][] wrong = {{1, 1, 1, 1, 0}, {-1, 1, 1, 1, 0}, {0, 0, 1, 1, 0}, {0, 31, 1, 1, 0}, {0, 1, 0, 1, 0},
            {0, 1, 41, 1, 0}, {0, 1, 1, 0, 0}, {0, 1, 1, 81, 0}, {0, 1, 1, 1, 5}, {0, 1, 1, 1, -1}};
        for (int[] w : wrong) {
            check.due("days", x.days(w[0], w[1], w[2], w[3], w[4]), -1);
        }
        check.due("STATUS", x.status(0) + x.status(1) + x.status(2), 0);
    }
}
