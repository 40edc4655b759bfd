import java.math.BigInteger;
import java.util.ArrayList;
import java.util.HashMap;
import java.util.List;
import java.util.Map;

/**
 * The document once more, in other ways and without care for speed: BALES as lists of EIGHTHS,
 * texts as trees read by descent, searches that try everything. AgreeTest holds ClothEnds against it.
 */
final class Plain {
    static final class Fault extends Exception {
        private static final long serialVersionUID = 1;
        final int number;

        Fault(int place, int kind) {
            number = 1 + 8 * place + kind;
        }
    }

    interface Sum {
        long of(long[] words);
    }

    interface Fact {
        boolean of(long[] words);
    }

    static final class Bale {
        /** of each EIGHTH from the open end, how many FLAWS it has */
        List<Integer> cloth = new ArrayList<>();
        int width;
        int lot;
        int stripe;

        Bale copy() {
            Bale b = new Bale();
            b.cloth = new ArrayList<>(cloth);
            b.width = width;
            b.lot = lot;
            b.stripe = stripe;
            return b;
        }

        int flaws(int n) {
            return cloth.stream().limit(n).mapToInt(i -> i).sum();
        }
    }

    record End(int length, int width, int lot, int flaws) {
    }

    record Clause(Sum sum, Fact test) {
    }

    static final class State {
        List<Bale> bales = new ArrayList<>();
        List<int[]> forms = new ArrayList<>();
        int[] pair;
        int thumb;
        int askew;
        int board;
        List<End> basket = new ArrayList<>();
        int sold;
        int lost;
        int given;
        int refused;
        int day;
        long x;
        List<Integer> known = new ArrayList<>();
        int[] weights = new int[9];
        List<int[]> levels = new ArrayList<>();
        List<int[]> entries = new ArrayList<>();

        State copy() {
            State s = new State();
            for (Bale b : bales) {
                s.bales.add(b.copy());
            }
            s.forms = new ArrayList<>(forms);
            s.pair = pair;
            s.thumb = thumb;
            s.askew = askew;
            s.board = board;
            s.basket = new ArrayList<>(basket);
            s.sold = sold;
            s.lost = lost;
            s.given = given;
            s.refused = refused;
            s.day = day;
            s.x = x;
            s.known = new ArrayList<>(known);
            s.weights = weights.clone();
            s.levels = new ArrayList<>(levels);
            s.entries = new ArrayList<>(entries);
            return s;
        }

        boolean isEnd(int bale) {
            int n = bales.get(bale).cloth.size();
            return 1 <= n && n <= board;
        }

        int left() {
            return bales.stream().mapToInt(b -> b.cloth.size()).sum();
        }

        int cut(int bale, int n, int beyond) {
            Bale b = bales.get(bale);
            int flaws = b.flaws(n);
            for (int i = 0; i < n + beyond && !b.cloth.isEmpty(); i++) {
                b.cloth.remove(0);
                if (i < n) {
                    sold++;
                } else {
                    lost++;
                }
            }
            return flaws;
        }

        long[] words(int bale, int n) {
            Bale b = bales.get(bale);
            int left = b.cloth.size();
            return new long[] {left, n, left < n + thumb ? 0 : left - n - thumb, b.flaws(n), b.width, b.lot, b.stripe,
                bale, day};
        }

        int serve(List<Clause> rule, int n) {
            int best = -1;
            long least = 0;
            for (int i = bales.size() - 1; i >= 0; i--) {
                long[] words = words(i, n);
                if (words[0] < n) {
                    continue;
                }
                for (Clause c : rule) {
                    if (c.sum != null && (c.test == null || c.test.of(words))) {
                        long sum = c.sum.of(words);
                        if (best < 0 || sum <= least) {
                            best = i;
                            least = sum;
                        }
                        break;
                    }
                }
            }
            if (best < 0) {
                refused++;
                return -1;
            }
            long[] words = words(best, n);
            cut(best, n, thumb);
            if (isEnd(best) && rule.stream().anyMatch(c -> c.sum == null && c.test.of(words))) {
                given += bales.get(best).cloth.size();
                bales.get(best).cloth.clear();
            }
            return best;
        }

        void day(List<Clause> rule, int k, int w) {
            for (int i = 0; i < k; i++) {
                x = (x * 1103515245L + 12345L) & 0x7fffffffL;
                serve(rule, 1 + (int) ((x >> 16) % w));
            }
            day++;
        }
    }

    StringBuilder tape = new StringBuilder();
    State s = new State();
    List<List<Clause>> rules = new ArrayList<>();
    State[] images = new State[4];
    int[] status = new int[3];

    private int refuse(int reason) {
        status[reason]++;
        return -2;
    }

    private static boolean in(int n, int least, int most) {
        return least <= n && n <= most;
    }

    private boolean isBale(int bale) {
        return in(bale, 0, s.bales.size() - 1);
    }

    int feed(int... five) {
        if (tape.length() + 20 > 400) {
            return -1;
        }
        for (int n : five) {
            for (int i = 3; i >= 0; i--) {
                tape.append((char) (n >> 8 * i & 255));
            }
        }
        return tape.length();
    }

    int end(int n) {
        if (!in(n, 0, tape.length())) {
            return -1;
        }
        tape.setLength(n);
        return n;
    }

    int shop() {
        Tokens t = new Tokens(tape.toString());
        tape.setLength(0);
        try {
            State next = new ShopText(t).read();
            next.x = s.x;
            s = next;
            return s.bales.size();
        } catch (Fault f) {
            return -2 - f.number;
        }
    }

    int rule() {
        if (rules.size() == 6) {
            return -1;
        }
        Tokens t = new Tokens(tape.toString());
        tape.setLength(0);
        try {
            rules.add(new RuleText(t).read());
            return rules.size() - 1;
        } catch (Fault f) {
            return -2 - f.number;
        }
    }

    int bale(int bale, int what) {
        if (!isBale(bale) || !in(what, 0, 6)) {
            return -1;
        }
        Bale b = s.bales.get(bale);
        int nearest = -1;
        for (int i = b.cloth.size() - 1; i >= 0; i--) {
            nearest = b.cloth.get(i) > 0 ? i : nearest;
        }
        return new int[] {b.cloth.size(), b.width, b.lot, b.stripe, b.flaws(1000), nearest, s.isEnd(bale) ? 1 : 0}[what];
    }

    int cut(int bale, int n, boolean tear) {
        if (!isBale(bale) || !in(n, 1, 480)) {
            return refuse(0);
        }
        if (s.bales.get(bale).cloth.size() < n) {
            return refuse(1);
        }
        return s.cut(bale, n, tear ? s.askew : s.thumb);
    }

    int basket(int bale) {
        if (!isBale(bale)) {
            return refuse(0);
        }
        if (!s.isEnd(bale)) {
            return refuse(1);
        }
        if (s.basket.size() == 10) {
            return refuse(2);
        }
        Bale b = s.bales.get(bale);
        s.basket.add(new End(b.cloth.size(), b.width, b.lot, b.flaws(1000)));
        b.cloth.clear();
        return s.basket.size();
    }

    int ends(int end, int what) {
        if (!in(end, 0, s.basket.size() - 1) || !in(what, 0, 3)) {
            return -1;
        }
        End e = s.basket.get(end);
        return new int[] {e.length, e.width, e.lot, e.flaws}[what];
    }

    int out(int end) {
        return in(end, 0, s.basket.size() - 1) ? s.basket.remove(end).length : refuse(0);
    }

    int serve(int rule, int n) {
        if (!in(rule, 0, rules.size() - 1) || !in(n, 1, 480)) {
            return refuse(0);
        }
        int bale = s.serve(rules.get(rule), n);
        return bale < 0 ? refuse(1) : bale;
    }

    int day(int rule, int k, int w) {
        if (!in(rule, 0, rules.size() - 1) || !in(k, 1, 40) || !in(w, 1, 80)) {
            return refuse(0);
        }
        int sold = s.sold;
        int refused = s.refused;
        s.day(rules.get(rule), k, w);
        status[1] += s.refused - refused;
        return s.sold - sold;
    }

    int days(int rule, int d, int k, int w, int what) {
        if (!in(rule, 0, rules.size() - 1) || !in(d, 1, 30) || !in(k, 1, 40) || !in(w, 1, 80) || !in(what, 0, 4)) {
            return -1;
        }
        State t = s.copy();
        for (int i = 0; i < d; i++) {
            t.day(rules.get(rule), k, w);
        }
        return new int[] {t.sold - s.sold, t.lost - s.lost, t.given - s.given, t.refused - s.refused, t.left()}[what];
    }

    int known(int n) {
        if (n == 0) {
            s.known.clear();
            return 0;
        }
        if (!in(n, 1, 480)) {
            return refuse(0);
        }
        if (s.known.size() == 9) {
            return refuse(2);
        }
        s.known.add(n);
        return s.known.size();
    }

    /** How long all() would take: each ORDER goes to each BALE or none. */
    double work() {
        return Math.pow(s.bales.size() + 1, s.known.size());
    }

    int all(int what) {
        if (!in(what, 0, 3)) {
            return -1;
        }
        if (what == 3) {
            return Math.min(s.known.stream().mapToInt(i -> i).sum(), s.left());
        }
        int[] best = {0, 0, 0};
        tryKnown(0, new int[s.known.size()], best);
        return best[what];
    }

    private void tryKnown(int order, int[] from, int[] best) {
        if (order == from.length) {
            State t = s.copy();
            t.sold = 0;
            t.lost = 0;
            long cut = 0;
            for (int i = 0; i < from.length; i++) {
                if (from[i] < 0) {
                    continue;
                }
                if (t.bales.get(from[i]).cloth.size() < s.known.get(i)) {
                    return;
                }
                t.cut(from[i], s.known.get(i), t.thumb);
                cut |= 1L << from[i];
            }
            int[] now = {t.sold, Long.bitCount(cut), t.lost};
            if (now[0] > best[0] || now[0] == best[0] && (now[1] < best[1] || now[1] == best[1] && now[2] < best[2])) {
                System.arraycopy(now, 0, best, 0, 3);
            }
            return;
        }
        for (int bale = -1; bale < s.bales.size(); bale++) {
            from[order] = bale;
            tryKnown(order + 1, from, best);
        }
    }

    int weight(int eighths, int weight) {
        if (!in(eighths, 1, 8) || !in(weight, 0, 9)) {
            return refuse(0);
        }
        int was = s.weights[eighths];
        s.weights[eighths] = weight;
        return was;
    }

    /** A mean as a fraction: above and below the line. */
    private record Mean(BigInteger above, BigInteger below) implements Comparable<Mean> {
        static Mean of(long above, long below) {
            return new Mean(BigInteger.valueOf(above), BigInteger.valueOf(below)).lowest();
        }

        Mean plus(Mean m) {
            return new Mean(above.multiply(m.below).add(m.above.multiply(below)), below.multiply(m.below)).lowest();
        }

        Mean times(Mean m) {
            return new Mean(above.multiply(m.above), below.multiply(m.below)).lowest();
        }

        Mean lowest() {
            BigInteger g = above.gcd(below);
            return new Mean(above.divide(g), below.divide(g));
        }

        @Override
        public int compareTo(Mean m) {
            return above.multiply(m.below).compareTo(m.above.multiply(below));
        }
    }

    long which(int order, int n, int what) {
        int weights = 0;
        for (int w : s.weights) {
            weights += w;
        }
        List<Integer> left = new ArrayList<>();
        int something = 0;
        for (Bale b : s.bales) {
            left.add(b.cloth.size());
            something += b.cloth.isEmpty() ? 0 : 1;
            if (b.cloth.size() > 40) {
                return -2;
            }
        }
        if (!in(order, 1, 480) || !in(n, 0, 4) || !in(what, 0, 2) || something > 3 || weights == 0) {
            return -2;
        }
        Map<List<Integer>, Mean> seen = new HashMap<>();
        int best = -1;
        Mean most = follow(left, n, weights, seen);
        for (int bale = left.size() - 1; bale >= 0; bale--) {
            if (left.get(bale) >= order) {
                Mean m = Mean.of(order, 1).plus(follow(behind(left, bale, order), n, weights, seen));
                if (m.compareTo(most) >= 0) {
                    best = bale;
                    most = m;
                }
            }
        }
        return what == 0 ? best : (what == 1 ? most.above : most.below).longValueExact();
    }

    private List<Integer> behind(List<Integer> left, int bale, int order) {
        List<Integer> next = new ArrayList<>(left);
        next.set(bale, Math.max(0, left.get(bale) - order - s.thumb));
        return next;
    }

    private Mean follow(List<Integer> left, int n, int weights, Map<List<Integer>, Mean> seen) {
        if (n == 0) {
            return Mean.of(0, 1);
        }
        List<Integer> key = new ArrayList<>(left);
        key.add(n);
        Mean known = seen.get(key);
        if (known != null) {
            return known;
        }
        Mean all = Mean.of(0, 1);
        for (int order = 1; order <= 8; order++) {
            Mean most = follow(left, n - 1, weights, seen);
            for (int bale = 0; bale < left.size(); bale++) {
                if (left.get(bale) >= order) {
                    Mean m = Mean.of(order, 1).plus(follow(behind(left, bale, order), n - 1, weights, seen));
                    most = m.compareTo(most) > 0 ? m : most;
                }
            }
            all = all.plus(most.times(Mean.of(s.weights[order], weights)));
        }
        seen.put(key, all);
        return all;
    }

    private int dropsOf(Bale b, int d) {
        State t = s.copy();
        t.bales.clear();
        t.bales.add(b.copy());
        int drops = 0;
        while (t.bales.get(0).cloth.size() >= d) {
            t.cut(0, d, t.thumb);
            drops++;
        }
        return drops;
    }

    int drops(int bale, int d) {
        return isBale(bale) && in(d, 1, 80) ? Math.min(20, dropsOf(s.bales.get(bale), d)) : -1;
    }

    int lots(int k, int d) {
        if (!in(k, 1, 20) || !in(d, 1, 80)) {
            return -1;
        }
        int[] drops = new int[10];
        s.bales.forEach(b -> drops[b.lot] += dropsOf(b, d));
        int bits = 0;
        for (int lot = 9; lot >= 0; lot--) {
            bits = 2 * bits + (drops[lot] >= k ? 1 : 0);
        }
        return bits;
    }

    int meet(int bale, int k, int d, int what) {
        if (!isBale(bale) || !in(k, 1, 20) || !in(d, 1, 80) || !in(what, 0, 1) || s.bales.get(bale).stripe == 0) {
            return -1;
        }
        int stripe = s.bales.get(bale).stripe;
        int left = s.bales.get(bale).cloth.size();
        int step = stripe;
        while (step < d + s.thumb) {
            step += stripe;
        }
        int begin = 0;
        for (int i = 1; i < k; i++) {
            begin += step;
        }
        if (begin + d > left) {
            return -2;
        }
        int taken = Math.min(left, begin + d + s.thumb);
        return what == 0 ? taken : taken - k * d;
    }

    int seam(int bale, int k, int d) {
        if (!isBale(bale) || !in(k, 1, 20) || !in(d, 1, 80)) {
            return -1;
        }
        List<Integer> cloth = s.bales.get(bale).cloth;
        for (int away = 0; away < d; away++) {
            boolean can = away + k * d <= cloth.size();
            for (int drop = 0; drop < k && can; drop++) {
                for (int i = 1; i < d - 1; i++) {
                    can = can && cloth.get(away + drop * d + i) == 0;
                }
            }
            if (can) {
                return away;
            }
        }
        return -2;
    }

    private int worth(int length, int width, int[] memo) {
        if (memo[length] >= 0) {
            return memo[length];
        }
        int most = 0;
        for (int[] f : s.forms) {
            if (f[0] <= length && f[1] <= width) {
                most = Math.max(most, f[2] + worth(length - f[0], width, memo));
            }
        }
        return memo[length] = most;
    }

    private int worth(int length, int width) {
        int[] memo = new int[length + 1];
        java.util.Arrays.fill(memo, -1);
        return worth(length, width, memo);
    }

    int made() {
        return made(s.basket);
    }

    private int made(List<End> ends) {
        if (ends.isEmpty()) {
            return 0;
        }
        End one = ends.get(0);
        List<End> rest = ends.subList(1, ends.size());
        int most = worth(one.length, one.width) + made(rest);
        for (int i = 0; i < rest.size() && s.pair != null; i++) {
            End other = rest.get(i);
            if (other.lot == one.lot && Math.min(one.length, other.length) >= s.pair[0]) {
                List<End> without = new ArrayList<>(rest);
                without.remove(i);
                most = Math.max(most, s.pair[1] + made(without));
            }
        }
        return most;
    }

    int madeOf(int length, int width, int what) {
        if (!in(length, 1, 80) || !in(width, 1, 99) || !in(what, 0, 1)) {
            return -1;
        }
        int most = worth(length, width);
        if (what == 0) {
            return most;
        }
        for (int i = 0; i < s.forms.size(); i++) {
            int[] f = s.forms.get(i);
            if (f[0] <= length && f[1] <= width && f[2] + worth(length - f[0], width) == most) {
                return i;
            }
        }
        return -2;
    }

    int line(int width, int brings, int often) {
        if (!in(width, 1, 99) || !in(brings, 0, 9999) || !in(often, 0, 100)) {
            return -1;
        }
        int longest = 0;
        for (int length = 1; length <= 80; length++) {
            if (worth(length, width) * 100 > brings * often) {
                break;
            }
            longest = length;
        }
        return longest;
    }

    int level(int price, int eighths) {
        if (price == 0) {
            s.levels.clear();
            return 0;
        }
        if (!in(price, 1, 99) || !in(eighths, 0, 99)) {
            return refuse(0);
        }
        if (s.levels.size() == 5) {
            return refuse(2);
        }
        s.levels.add(new int[] {price, eighths});
        return s.levels.size();
    }

    int sale(int eighths, int t, int lost, int what) {
        if (!in(eighths, 0, 480) || !in(t, 1, 60) || !in(lost, 0, 50) || !in(what, 0, 1) || s.levels.isEmpty()) {
            return -1;
        }
        Map<Integer, Integer> memo = new HashMap<>();
        int coins = sell(eighths, t, lost, 0, memo);
        if (what == 0) {
            return coins;
        }
        for (int first = 0;; first++) {
            if (week(eighths, t, lost, first, memo) == coins) {
                return first;
            }
        }
    }

    private int week(int left, int t, int lost, int level, Map<Integer, Integer> memo) {
        int sold = Math.min(left, s.levels.get(level)[1]);
        int rest = left - sold;
        int gone = 0;
        while ((gone + 1) * 100 <= rest * lost) {
            gone++;
        }
        return sold * s.levels.get(level)[0] + sell(rest - gone, t - 1, lost, level, memo);
    }

    private int sell(int left, int t, int lost, int least, Map<Integer, Integer> memo) {
        if (t == 0) {
            return 0;
        }
        int key = (left * 64 + t) * 8 + least;
        Integer known = memo.get(key);
        if (known != null) {
            return known;
        }
        int most = 0;
        for (int level = least; level < s.levels.size(); level++) {
            most = Math.max(most, week(left, t, lost, level, memo));
        }
        memo.put(key, most);
        return most;
    }

    int roll(int outer, int inner, int thick, int what) {
        if (!in(outer, 1, 9999) || !in(inner, 0, outer) || !in(thick, 1, 999) || !in(what, 0, 1)) {
            return -1;
        }
        BigInteger ring = BigInteger.valueOf(outer - inner).multiply(BigInteger.valueOf(outer + inner));
        BigInteger above = ring.multiply(BigInteger.valueOf(what == 0 ? 333 : 355));
        return above.divide(BigInteger.valueOf((what == 0 ? 106L : 113L) * thick * 450)).intValueExact();
    }

    int entry(int clerk, int eighths) {
        if (clerk == -1) {
            s.entries.clear();
            return 0;
        }
        if (!in(clerk, 0, 5) || !in(eighths, 1, 480)) {
            return refuse(0);
        }
        if (s.entries.size() == 20) {
            return refuse(2);
        }
        s.entries.add(new int[] {clerk, eighths});
        return s.entries.size();
    }

    int rod(int missing, int what) {
        if (!in(missing, -480, 480) || !in(what, 0, 2)) {
            return -1;
        }
        List<int[]> twos = new ArrayList<>();
        for (int clerk = 0; clerk < 6; clerk++) {
            int sold = 0;
            for (int[] entry : s.entries) {
                sold += entry[0] == clerk ? entry[1] : 0;
            }
            for (int e = -8; e <= 8; e++) {
                if (e != 0 && e * sold / 64.0 == missing) {
                    twos.add(new int[] {clerk, e});
                }
            }
        }
        if (what == 0) {
            return twos.size();
        }
        return twos.isEmpty() ? what == 1 ? -2 : 0 : twos.get(0)[what - 1];
    }

    int seed(int x) {
        if (x < 0) {
            return refuse(0);
        }
        int was = (int) s.x;
        s.x = x;
        return was;
    }

    int status(int reason) {
        return in(reason, 0, 2) ? status[reason] : -1;
    }

    int count(int what) {
        int[] counts = {s.bales.size(), rules.size(), s.sold, s.lost, s.given, s.refused, s.basket.size(), s.left(),
            s.day, (int) s.x, tape.length(), s.known.size(), s.entries.size(), s.levels.size(), s.thumb, s.askew,
            s.board};
        return in(what, 0, 16) ? counts[what] : -1;
    }

    int image(int k) {
        if (!in(k, 0, 3)) {
            return refuse(0);
        }
        images[k] = s.copy();
        return s.day;
    }

    int back(int k) {
        if (!in(k, 0, 3) || images[k] == null) {
            return refuse(0);
        }
        s = images[k].copy();
        return s.day;
    }

    /** A text as words, NUMBERS and signs, each with its place. */
    static final class Tokens {
        final List<String> texts = new ArrayList<>();
        final List<Integer> places = new ArrayList<>();
        int at;

        Tokens(String text) {
            java.util.regex.Matcher m =
                java.util.regex.Pattern.compile(" +|([a-z]+|[0-9]+|<=|>=|[\\x00-\\xff])", java.util.regex.Pattern.DOTALL)
                    .matcher(text);
            while (m.find()) {
                if (m.group(1) != null) {
                    texts.add(m.group(1));
                    places.add(m.start());
                }
            }
            texts.add("");
            places.add(text.length());
        }

        String next() {
            return texts.get(at);
        }

        int place() {
            return places.get(at);
        }

        boolean take(String... any) {
            for (String one : any) {
                if (next().equals(one)) {
                    at++;
                    return true;
                }
            }
            return false;
        }

        Fault cannotStand() {
            return new Fault(place(), 0);
        }

        boolean isNumber() {
            return !next().isEmpty() && Character.isDigit(next().charAt(0));
        }

        int number(int least, int most) throws Fault {
            if (!isNumber()) {
                throw cannotStand();
            }
            if (next().length() > 5 || !in(Integer.parseInt(next()), least, most)) {
                throw new Fault(place(), 1);
            }
            return Integer.parseInt(texts.get(at++));
        }
    }

    private static final class ShopText {
        private final Tokens t;
        private final State s = new State();
        private int flaws;

        ShopText(Tokens t) {
            this.t = t;
        }

        State read() throws Fault {
            List<String> told = new ArrayList<>();
            do {
                String kind = t.next();
                if (!List.of("bale", "flaw", "thumb", "askew", "board", "form", "pair").contains(kind)) {
                    throw t.cannotStand();
                }
                int most = Map.of("bale", 12, "flaw", 16, "form", 8).getOrDefault(kind, 1);
                if (told.size() == 32 || told.stream().filter(kind::equals).count() == most) {
                    throw new Fault(t.place(), 4);
                }
                told.add(kind);
                t.at++;
                clause(kind);
            } while (t.take(";"));
            if (!t.next().isEmpty() || s.bales.isEmpty()) {
                throw t.cannotStand();
            }
            return s;
        }

        private void clause(String kind) throws Fault {
            if (kind.equals("bale")) {
                Bale b = new Bale();
                int n = t.number(1, 480);
                for (int i = 0; i < n; i++) {
                    b.cloth.add(0);
                }
                b.width = t.number(1, 99);
                b.lot = t.number(0, 9);
                b.stripe = t.number(0, 96);
                s.bales.add(b);
            } else if (kind.equals("flaw")) {
                List<Integer> cloth = s.bales.isEmpty() ? flawless() : s.bales.get(t.number(0, s.bales.size() - 1)).cloth;
                int at = t.number(0, cloth.size() - 1);
                cloth.set(at, cloth.get(at) + 1);
            } else if (kind.equals("thumb")) {
                s.thumb = t.number(0, 8);
            } else if (kind.equals("askew")) {
                s.askew = t.number(0, 8);
            } else if (kind.equals("board")) {
                s.board = t.number(0, 80);
            } else if (kind.equals("form")) {
                s.forms.add(new int[] {t.number(1, 80), t.number(1, 99), t.number(0, 999)});
            } else {
                s.pair = new int[] {t.number(1, 80), t.number(0, 999)};
            }
        }

        private List<Integer> flawless() throws Fault {
            t.number(1, 0);
            throw t.cannotStand();
        }
    }

    private static final class RuleText {
        private static final List<String> WORDS =
            List.of("left", "order", "rest", "flaws", "width", "lot", "stripe", "bale", "day");
        private final Tokens t;
        private int parts;

        RuleText(Tokens t) {
            this.t = t;
        }

        List<Clause> read() throws Fault {
            List<Clause> all = new ArrayList<>();
            do {
                if (!t.next().equals("from") && !t.next().equals("give")) {
                    throw t.cannotStand();
                }
                if (all.size() == 12) {
                    throw new Fault(t.place(), 4);
                }
                if (t.take("give")) {
                    all.add(new Clause(null, test(0)));
                } else {
                    t.at++;
                    Sum sum = sum();
                    all.add(new Clause(sum, t.take("if") ? test(0) : null));
                }
            } while (t.take(";"));
            if (!t.next().isEmpty()) {
                throw t.cannotStand();
            }
            return all;
        }

        private Fact test(int deep) throws Fault {
            Fact a = part(deep);
            while (t.take("or")) {
                Fact one = a;
                Fact other = part(deep);
                a = w -> one.of(w) || other.of(w);
            }
            return a;
        }

        private Fact part(int deep) throws Fault {
            Fact a = fact(deep);
            while (t.take("and")) {
                Fact one = a;
                Fact other = fact(deep);
                a = w -> one.of(w) && other.of(w);
            }
            return a;
        }

        private Fact fact(int deep) throws Fault {
            if (t.next().equals("not") || t.next().equals("[")) {
                if (deep == 10) {
                    throw new Fault(t.place(), 2);
                }
                if (t.take("not")) {
                    Fact a = fact(deep + 1);
                    return w -> !a.of(w);
                }
                t.at++;
                Fact a = test(deep + 1);
                if (!t.take("]")) {
                    throw t.cannotStand();
                }
                return a;
            }
            Sum a = sum();
            String sign = t.next();
            if (!List.of("<", "<=", "=", ">=", ">").contains(sign)) {
                throw t.cannotStand();
            }
            count();
            t.at++;
            Sum b = sum();
            return w -> {
                int by = Long.compare(a.of(w), b.of(w));
                return by < 0 && sign.contains("<") || by == 0 && sign.contains("=") || by > 0 && sign.contains(">");
            };
        }

        private void count() throws Fault {
            if (parts == 60) {
                throw new Fault(t.place(), 3);
            }
            parts++;
        }

        private Sum sum() throws Fault {
            Sum a = term();
            while (true) {
                String sign = t.next();
                if (!t.take("+", "-")) {
                    return a;
                }
                Sum one = a;
                Sum other = term();
                a = w -> sign.equals("+") ? one.of(w) + other.of(w) : one.of(w) - other.of(w);
            }
        }

        private Sum term() throws Fault {
            Sum a = value();
            while (true) {
                String sign = t.next();
                if (!t.take("*", "/", "%")) {
                    return a;
                }
                Sum one = a;
                Sum other = value();
                a = w -> {
                    long x = one.of(w);
                    long y = other.of(w);
                    return sign.equals("*") ? x * y : y == 0 ? 0 : sign.equals("/") ? x / y : x % y;
                };
            }
        }

        private Sum value() throws Fault {
            int place = t.place();
            if (t.isNumber()) {
                int number = t.number(0, 99999);
                t.at--;
                count();
                t.at++;
                return w -> number;
            }
            int word = WORDS.indexOf(t.next());
            if (word < 0) {
                throw new Fault(place, 0);
            }
            count();
            t.at++;
            return w -> w[word];
        }
    }
}
