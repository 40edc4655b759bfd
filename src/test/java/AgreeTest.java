import java.util.Random;

/** Long runs of calls by chance (always the same ones): ClothEnds answers as the plain reading does. */
public final class AgreeTest {
    private static final Check check = new Check("AgreeTest");
    private static final String[] WORDS =
        {"left", "order", "rest", "flaws", "width", "lot", "stripe", "bale", "day"};

    private final Random chance;
    private final boolean small;
    private ClothEnds x = new ClothEnds();
    private Plain y = new Plain();

    private AgreeTest(long run) {
        chance = new Random(run);
        small = chance.nextInt(3) > 0;
    }

    public static void main(String[] args) {
        int runs = args.length > 0 ? Integer.parseInt(args[0]) : 600;
        for (int run = 0; run < runs; run++) {
            new AgreeTest(run).run(run);
        }
        check.done();
    }

    private void run(int run) {
        for (int call = 0; call < 500; call++) {
            int kind = chance.nextInt(100);
            if (kind < 3 || call == 0) {
                text(run, shopText(), true);
            } else if (kind < 7 || call < 4) {
                text(run, ruleText(), false);
            } else if (kind < 8) {
                tape(run);
            } else {
                one(run);
            }
        }
    }

    private void due(int run, String call, long got, long want) {
        check.due("run " + run + ", " + call, got, want);
    }

    private int below(int n) {
        return chance.nextInt(n);
    }

    /** Mostly within some bounds, at times at or beyond them. */
    private int near(int least, int most) {
        switch (below(40)) {
            case 0: return least - 1;
            case 1: return most + 1;
            case 2: return least;
            case 3: return most;
            case 4: return below(8) == 0 ? chance.nextInt() : least;
            case 5: return below(8) == 0 ? Integer.MIN_VALUE : most;
            default: return least + below(Math.max(1, most - least + 1));
        }
    }

    private int bale() {
        return near(0, x.count(0) - 1);
    }

    private int eighths() {
        return below(10) == 0 ? near(1, 480) : 1 + below(small ? 9 : 60);
    }

    private String mutate(String text, String signs) {
        StringBuilder all = new StringBuilder(text);
        int changes = below(3) > 0 ? 0 : 1 + below(2);
        for (int i = 0; i < changes && all.length() > 0; i++) {
            int at = below(all.length());
            char sign = below(20) == 0 ? (char) below(256) : signs.charAt(below(signs.length()));
            switch (below(5)) {
                case 0: all.deleteCharAt(at); break;
                case 1: all.setCharAt(at, sign); break;
                case 2: all.insert(at, sign); break;
                case 3: all.insert(at, ' '); break;
                default: all.setLength(at); break;
            }
        }
        if (all.length() > 400) {
            all.setLength(400);
        }
        return all.toString();
    }

    private String blank() {
        return below(8) == 0 ? " " : "";
    }

    private String shopText() {
        StringBuilder all = new StringBuilder();
        int bales = below(30) == 0 ? 13 : 1 + below(small ? 4 : 12);
        for (int i = 0; i < bales; i++) {
            int n = small ? 1 + below(40) : 1 + below(480);
            all.append(i == 0 ? "" : ";").append(blank()).append("bale ").append(n).append(' ').append(1 + below(99))
                .append(' ').append(below(small ? 3 : 10)).append(' ').append(below(2) * below(small ? 9 : 97));
            while (below(2) == 0) {
                all.append(";flaw ").append(below(i + 1)).append(' ').append(below(Math.min(n, 20)));
            }
        }
        if (below(3) > 0) {
            all.append(";thumb ").append(below(small ? 3 : 9));
        }
        if (below(3) > 0) {
            all.append(";askew ").append(blank()).append(below(9)).append(blank());
        }
        if (below(4) > 0) {
            all.append(";board ").append(small ? 5 + below(20) : below(81));
        }
        int forms = below(20) == 0 ? 9 : below(5);
        for (int i = 0; i < forms; i++) {
            all.append(";form ").append(1 + below(small ? 8 : 80)).append(' ').append(1 + below(99)).append(' ')
                .append(below(3) == 0 ? below(3) : below(1000));
        }
        if (below(2) == 0) {
            all.append(";pair ").append(1 + below(small ? 8 : 80)).append(' ').append(below(1000));
        }
        return mutate(all.toString(), "bale flaw thumb;askew;board;form pair 0123456789 ; ");
    }

    private String value() {
        return below(2) == 0 ? WORDS[below(9)] : "" + below(below(2) == 0 ? 6 : below(30) == 0 ? 200000 : 99999);
    }

    private String sum() {
        StringBuilder all = new StringBuilder(value());
        while (below(2) == 0) {
            all.append(blank()).append("+-*/%".charAt(below(5))).append(blank()).append(value());
        }
        return all.toString();
    }

    private String test(int deep) {
        StringBuilder all = new StringBuilder();
        do {
            all.append(all.length() == 0 ? "" : below(2) == 0 ? " and " : " or ");
            int kind = below(5 + deep);
            if (kind == 0) {
                all.append("not [").append(test(deep + 1)).append("]");
            } else if (kind == 1) {
                all.append("[").append(blank()).append(test(deep + 1)).append("]").append(blank());
            } else if (kind == 2) {
                all.append(Check.times("not ", 1 + below(below(9) == 0 ? 11 : 3), "")).append(fact());
            } else {
                all.append(fact());
            }
        } while (below(3) == 0);
        return all.toString();
    }

    private String fact() {
        return sum() + blank() + new String[] {"<", "<=", "=", ">=", ">"}[below(5)] + blank() + sum();
    }

    private String ruleText() {
        StringBuilder all = new StringBuilder();
        int clauses = below(20) == 0 ? 13 : 1 + below(4);
        for (int i = 0; i < clauses; i++) {
            all.append(i == 0 ? "" : ";").append(blank());
            if (below(3) == 0) {
                all.append("give ").append(test(0));
            } else if (clauses > 9) {
                all.append("from ").append(value());
            } else {
                all.append("from ").append(sum()).append(below(2) == 0 ? "" : " if " + test(0));
            }
        }
        if (below(30) == 0) {
            return "from 1 if " + Check.times(below(2) == 0 ? "[" : "not ", 5, "") + Check.times("[", 4 + below(3), "")
                + "1=1" + Check.times("]", 8 + below(5), "");
        }
        return mutate(all.toString(), "from give if and or not left order [[]] <=>+-*/%;0123456789 ");
    }

    private void text(int run, String text, boolean shop) {
        check.holds("run " + run + ", tape", Check.tape(x, text));
        y.tape.setLength(0);
        y.tape.append(text);
        if (shop) {
            due(run, "shop " + text, x.shop(), y.shop());
        } else {
            due(run, "rule " + text, x.rule(), y.rule());
        }
        due(run, "TAPE behind " + text, x.count(10), y.count(10));
    }

    private void tape(int run) {
        int[] n = {chance.nextInt(), chance.nextInt(), chance.nextInt(), chance.nextInt(), chance.nextInt()};
        for (int i = below(22); i >= 0; i--) {
            due(run, "feed", x.feed(n[0], n[1], n[2], n[3], n[4]), y.feed(n));
        }
        int cut = near(0, 400);
        due(run, "end " + cut, x.end(cut), y.end(cut));
        if (below(2) == 0) {
            due(run, "shop of chance", x.shop(), y.shop());
        } else {
            due(run, "rule of chance", x.rule(), y.rule());
        }
    }

    private void one(int run) {
        int a = bale();
        int n = eighths();
        int what = near(0, 4);
        int r = near(0, Math.max(0, x.count(1) - 1));
        switch (below(36)) {
            case 0: case 1: case 2: case 3:
                what = near(0, 6);
                due(run, "bale " + a + " " + what, x.bale(a, what), y.bale(a, what));
                break;
            case 4: case 5:
                due(run, "cut " + a + " " + n, x.cut(a, n), y.cut(a, n, false));
                break;
            case 6:
                due(run, "tear " + a + " " + n, x.tear(a, n), y.cut(a, n, true));
                break;
            case 7: case 8:
                due(run, "basket " + a, x.basket(a), y.basket(a));
                break;
            case 9: {
                int end = near(0, 9);
                due(run, "ends " + end + " " + what, x.ends(end, what), y.ends(end, what));
                break;
            }
            case 10: {
                int end = near(0, 9);
                if (below(3) == 0) {
                    due(run, "out " + end, x.out(end), y.out(end));
                }
                break;
            }
            case 11: case 12:
                due(run, "serve " + r + " " + n, x.serve(r, n), y.serve(r, n));
                break;
            case 13: {
                int k = near(1, small ? 4 : 40);
                int w = near(1, small ? 6 : 80);
                if (below(3) == 0) {
                    due(run, "day " + r + " " + k + " " + w, x.day(r, k, w), y.day(r, k, w));
                } else {
                    int d = near(1, small ? 5 : 30);
                    due(run, "days " + r + " " + d + " " + k + " " + w + " " + what, x.days(r, d, k, w, what),
                        y.days(r, d, k, w, what));
                }
                break;
            }
            default:
                told(run);
                break;
        }
    }

    private void told(int run) {
        int what = near(0, 2);
        switch (below(20)) {
            case 0: case 1: {
                int n = below(6) == 0 ? 0 : eighths();
                due(run, "known " + n, x.known(n), y.known(n));
                break;
            }
            case 2: case 3:
                what = near(0, 3);
                if (y.work() < 3000) {
                    due(run, "all " + what, x.all(what), y.all(what));
                }
                break;
            case 4: case 5: {
                int n = near(1, 8);
                int w = near(0, 9);
                due(run, "weight " + n + " " + w, x.weight(n, w), y.weight(n, w));
                break;
            }
            case 6: case 7: {
                int order = below(5) == 0 ? near(1, 480) : 1 + below(12);
                int n = near(0, below(9) == 0 ? 4 : 2);
                due(run, "which " + order + " " + n + " " + what, x.which(order, n, what), y.which(order, n, what));
                break;
            }
            case 8: case 9: case 10:
                drops(run);
                break;
            case 11: case 12:
                made(run);
                break;
            case 13: case 14:
                sale(run);
                break;
            case 15:
                books(run);
                break;
            case 16: case 17: {
                int of = near(0, 16);
                due(run, "count " + of, x.count(of), y.count(of));
                due(run, "status " + what, x.status(what), y.status(what));
                break;
            }
            case 18: {
                int to = near(0, Integer.MAX_VALUE);
                due(run, "seed " + to, x.seed(to), y.seed(to));
                break;
            }
            default: {
                int k = near(0, 3);
                if (below(2) == 0) {
                    due(run, "image " + k, x.image(k), y.image(k));
                } else {
                    due(run, "back " + k, x.back(k), y.back(k));
                }
                break;
            }
        }
    }

    private void drops(int run) {
        int a = bale();
        int k = below(3) == 0 ? near(1, 20) : 1 + below(4);
        int d = below(4) == 0 ? near(1, 80) : 1 + below(9);
        int what = near(0, 1);
        due(run, "drops " + a + " " + d, x.drops(a, d), y.drops(a, d));
        due(run, "lots " + k + " " + d, x.lots(k, d), y.lots(k, d));
        due(run, "meet " + a + " " + k + " " + d, x.meet(a, k, d, what), y.meet(a, k, d, what));
        due(run, "seam " + a + " " + k + " " + d, x.seam(a, k, d), y.seam(a, k, d));
    }

    private void made(int run) {
        int length = near(1, 80);
        int width = near(1, 99);
        int what = near(0, 1);
        int brings = below(2) == 0 ? near(0, 9999) : below(500);
        int often = near(0, 100);
        due(run, "made", x.made(), y.made());
        due(run, "madeOf " + length + " " + width, x.madeOf(length, width, what), y.madeOf(length, width, what));
        due(run, "line " + width + " " + brings + " " + often, x.line(width, brings, often),
            y.line(width, brings, often));
    }

    private void sale(int run) {
        int price = below(12) == 0 ? 0 : near(1, 99);
        int most = below(3) == 0 ? near(0, 99) : below(9);
        due(run, "level " + price + " " + most, x.level(price, most), y.level(price, most));
        int n = below(3) == 0 ? near(0, 480) : below(60);
        int t = below(4) == 0 ? near(1, 60) : 1 + below(6);
        int lost = near(0, 50);
        int what = near(0, 1);
        due(run, "sale " + n + " " + t + " " + lost + " " + what, x.sale(n, t, lost, what), y.sale(n, t, lost, what));
    }

    private void books(int run) {
        int outer = near(1, 9999);
        int inner = below(5) == 0 ? near(0, outer) : below(Math.max(1, Math.min(outer, 9999)));
        int thick = near(1, below(2) == 0 ? 999 : 5);
        int what = near(0, 1);
        due(run, "roll " + outer + " " + inner + " " + thick, x.roll(outer, inner, thick, what),
            y.roll(outer, inner, thick, what));
        int clerk = below(9) == 0 ? -1 : near(0, 5);
        int n = below(2) == 0 ? near(1, 480) : 32 * (1 + below(6));
        due(run, "entry " + clerk + " " + n, x.entry(clerk, n), y.entry(clerk, n));
        int missing = below(3) == 0 ? near(-480, 480) : below(25) - 12;
        for (int of = 0; of < 3; of++) {
            due(run, "rod " + missing + " " + of, x.rod(missing, of), y.rod(missing, of));
        }
    }
}
