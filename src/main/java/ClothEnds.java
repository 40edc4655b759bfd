/**
 * Ends of cloth: BALES that are cut for ORDERS, the ENDS that come of it, and
 * what is asked of them. The words in capitals are those of the document.
 */
public final class ClothEnds {
    public static final int NONE = -1;

    private static final int REFUSAL = -2;

    // The reasons that STATUS counts.
    private static final int UNTOLD = 0;
    private static final int TOO_FEW = 1;
    private static final int NO_ROOM = 2;
    private static final int REASONS = 3;

    private static final int MOST_RULES = 6;
    private static final int MOST_IMAGES = 4;
    private static final int MOST_EIGHTHS = 480;
    private static final int MOST_WIDTH = 99;
    private static final int MOST_ORDERS = 40;
    private static final int MOST_DRAWN = 80;
    private static final int MOST_DAYS = 30;
    private static final int LAST_DAY = 9999;
    private static final int MOST_DROPS = 20;
    private static final int MOST_DROP = 80;
    private static final int MOST_FED = 20;

    private final Text tape = new Text();
    private final Stand stand = new Stand();
    private final Stand trial = new Stand();
    private final Stand[] images = new Stand[MOST_IMAGES];
    private final boolean[] imaged = new boolean[MOST_IMAGES];
    private final Rule[] rules = new Rule[MOST_RULES];
    private int ruleCount;
    private final int[] refusals = new int[REASONS];
    private final ShopReader shopReader = new ShopReader();
    private final RuleReader ruleReader = new RuleReader();
    private final Forms forms = new Forms();
    private final KnownPlan knownPlan = new KnownPlan();
    private final WhichPlan whichPlan = new WhichPlan();
    private final SalePlan salePlan = new SalePlan();

    public ClothEnds() {
        for (int i = 0; i < MOST_IMAGES; i++) {
            images[i] = new Stand();
        }
        for (int i = 0; i < MOST_RULES; i++) {
            rules[i] = new Rule();
        }
    }

    // ---- the TAPE, the SHOP and the RULES

    public int feed(int a, int b, int c, int d, int e) {
        if (tape.length > Text.ROOM - MOST_FED) {
            return NONE;
        }
        tape.append(a);
        tape.append(b);
        tape.append(c);
        tape.append(d);
        tape.append(e);
        return tape.length;
    }

    public int end(int n) {
        if (!within(n, 0, tape.length)) {
            return NONE;
        }
        tape.length = n;
        return n;
    }

    public int shop() {
        int fault = shopReader.read(tape);
        tape.length = 0;
        if (fault != 0) {
            return REFUSAL - fault;
        }
        stand.open(shopReader.draft);
        return stand.shop.bales;
    }

    public int rule() {
        if (ruleCount >= MOST_RULES) {
            return NONE;
        }
        int fault = ruleReader.read(tape);
        tape.length = 0;
        if (fault != 0) {
            return REFUSAL - fault;
        }
        rules[ruleCount].copyFrom(ruleReader.draft);
        ruleCount++;
        return ruleCount - 1;
    }

    // ---- BALES, ENDS and the BASKET

    public int bale(int bale, int what) {
        Shop shop = stand.shop;
        if (!shop.has(bale)) {
            return NONE;
        }
        switch (what) {
            case 0: return shop.eighths[bale];
            case 1: return shop.width[bale];
            case 2: return shop.lot[bale];
            case 3: return shop.stripe[bale];
            case 4: return shop.flawsWithin(bale, shop.eighths[bale]);
            case 5: return shop.nearestFlaw(bale);
            case 6: return shop.hasEnd(bale) ? 1 : 0;
            default: return NONE;
        }
    }

    public int cut(int bale, int n) {
        return carryOff(bale, n, stand.shop.thumb);
    }

    public int tear(int bale, int n) {
        return carryOff(bale, n, stand.shop.askew);
    }

    public int basket(int bale) {
        if (!stand.shop.has(bale)) {
            return refuse(UNTOLD);
        }
        if (!stand.shop.hasEnd(bale)) {
            return refuse(TOO_FEW);
        }
        if (stand.ends >= Stand.MOST_ENDS) {
            return refuse(NO_ROOM);
        }
        stand.putIntoBasket(bale);
        return stand.ends;
    }

    public int ends(int end, int what) {
        if (!stand.hasEnd(end)) {
            return NONE;
        }
        switch (what) {
            case 0: return stand.endLength[end];
            case 1: return stand.endWidth[end];
            case 2: return stand.endLot[end];
            case 3: return stand.endFlaws[end];
            default: return NONE;
        }
    }

    public int out(int end) {
        if (!stand.hasEnd(end)) {
            return refuse(UNTOLD);
        }
        return stand.takeOutOfBasket(end);
    }

    // ---- ORDERS by RULES

    public int serve(int rule, int n) {
        if (!hasRule(rule) || !within(n, 1, MOST_EIGHTHS)) {
            return refuse(UNTOLD);
        }
        int bale = stand.fillOrder(rules[rule], n);
        return bale == NONE ? refuse(TOO_FEW) : bale;
    }

    public int day(int rule, int k, int w) {
        if (!hasRule(rule) || !isDay(k, w) || stand.day >= LAST_DAY) {
            return refuse(UNTOLD);
        }
        int sold = stand.sold;
        int refused = stand.refused;
        stand.runDay(rules[rule], k, w);
        refusals[TOO_FEW] += stand.refused - refused;
        return stand.sold - sold;
    }

    public int days(int rule, int d, int k, int w, int what) {
        if (!hasRule(rule) || !isDay(k, w) || !within(d, 1, MOST_DAYS) || !within(what, 0, 4)) {
            return NONE;
        }
        trial.copyFrom(stand);
        trial.clearCounts();
        for (int i = 0; i < d; i++) {
            trial.runDay(rules[rule], k, w);
        }
        switch (what) {
            case 0: return trial.sold;
            case 1: return trial.lost;
            case 2: return trial.given;
            case 3: return trial.refused;
            default: return trial.shop.eighthsLeft();
        }
    }

    // ---- KNOWN ORDERS, and which BALE to CUT

    public int known(int n) {
        Told told = stand.told;
        if (n == 0) {
            told.knowns = 0;
            return 0;
        }
        if (!within(n, 1, MOST_EIGHTHS)) {
            return refuse(UNTOLD);
        }
        if (told.knowns >= Told.MOST_KNOWN) {
            return refuse(NO_ROOM);
        }
        told.known[told.knowns] = n;
        told.knowns++;
        return told.knowns;
    }

    public int all(int what) {
        if (!within(what, 0, 3)) {
            return NONE;
        }
        if (what == 3) {
            return Math.min(stand.told.knownEighths(), stand.shop.eighthsLeft());
        }
        knownPlan.work(stand.shop, stand.told);
        switch (what) {
            case 0: return knownPlan.sold;
            case 1: return knownPlan.bales;
            default: return knownPlan.lost;
        }
    }

    public int weight(int eighths, int weight) {
        if (!within(eighths, 1, Told.MOST_WEIGHED) || !within(weight, 0, 9)) {
            return refuse(UNTOLD);
        }
        int was = stand.told.weights[eighths];
        stand.told.weights[eighths] = weight;
        return was;
    }

    public long which(int order, int n, int what) {
        boolean asked = within(order, 1, MOST_EIGHTHS) && within(n, 0, WhichPlan.MOST_MORE)
            && within(what, 0, 2);
        if (!asked || !whichPlan.takes(stand.shop, stand.told)) {
            return REFUSAL;
        }
        whichPlan.work(order, n);
        switch (what) {
            case 0: return whichPlan.bale;
            case 1: return whichPlan.above;
            default: return whichPlan.below;
        }
    }

    // ---- SETS, stripes that MEET, a SEAM

    public int drops(int bale, int d) {
        if (!stand.shop.has(bale) || !within(d, 1, MOST_DROP)) {
            return NONE;
        }
        return stand.shop.dropsOf(bale, d);
    }

    public int lots(int k, int d) {
        if (!areDrops(k, d)) {
            return NONE;
        }
        int bits = 0;
        for (int lot = 0; lot <= Shop.MOST_LOT; lot++) {
            if (stand.shop.dropsOfLot(lot, d) >= k) {
                bits |= 1 << lot;
            }
        }
        return bits;
    }

    public int meet(int bale, int k, int d, int what) {
        Shop shop = stand.shop;
        if (!shop.has(bale) || !areDrops(k, d) || !within(what, 0, 1)) {
            return NONE;
        }
        int stripe = shop.stripe[bale];
        if (stripe <= 0) {
            return NONE;
        }
        int step = (d + shop.thumb + stripe - 1) / stripe * stripe;
        int least = (k - 1) * step + d;
        if (shop.eighths[bale] < least) {
            return REFUSAL;
        }
        int taken = Math.min(shop.eighths[bale], least + shop.thumb);
        return what == 0 ? taken : taken - k * d;
    }

    public int seam(int bale, int k, int d) {
        if (!stand.shop.has(bale) || !areDrops(k, d)) {
            return NONE;
        }
        for (int away = 0; away < d; away++) {
            if (stand.shop.hidesFlaws(bale, away, k, d)) {
                return away;
            }
        }
        return REFUSAL;
    }

    // ---- what can be MADE of ENDS

    public int made() {
        return forms.worthOfBasket(stand);
    }

    public int madeOf(int length, int width, int what) {
        boolean asked = within(length, 1, Shop.MOST_END) && within(width, 1, MOST_WIDTH);
        if (!asked || !within(what, 0, 1)) {
            return NONE;
        }
        forms.lay(stand.shop, width);
        return what == 0 ? forms.worthOf(length) : forms.firstOf(stand.shop, length, width);
    }

    public int line(int width, int brings, int often) {
        if (!within(width, 1, MOST_WIDTH) || !within(brings, 0, 9999) || !within(often, 0, 100)) {
            return NONE;
        }
        forms.lay(stand.shop, width);
        return forms.longestWorth(brings * often / 100);
    }

    // ---- the SALE, the ROLL, the BOOKS

    public int level(int price, int eighths) {
        Told told = stand.told;
        if (price == 0) {
            told.levels = 0;
            return 0;
        }
        if (!within(price, 1, 99) || !within(eighths, 0, 99)) {
            return refuse(UNTOLD);
        }
        if (told.levels >= Told.MOST_LEVELS) {
            return refuse(NO_ROOM);
        }
        told.levelPrice[told.levels] = price;
        told.levelMost[told.levels] = eighths;
        told.levels++;
        return told.levels;
    }

    public int sale(int eighths, int t, int lost, int what) {
        boolean asked = within(eighths, 0, MOST_EIGHTHS) && within(t, 1, 60)
            && within(lost, 0, 50) && within(what, 0, 1);
        if (!asked || stand.told.levels == 0) {
            return NONE;
        }
        salePlan.work(stand.told, eighths, t, lost);
        return what == 0 ? salePlan.coins : salePlan.first;
    }

    public int roll(int outer, int inner, int thick, int what) {
        boolean asked = within(outer, 1, 9999) && within(inner, 0, outer) && within(what, 0, 1);
        if (!asked || !within(thick, 1, 999)) {
            return NONE;
        }
        long squares = (long) outer * outer - (long) inner * inner;
        long hundredths = 450L * thick;
        long eighths = what == 0
            ? squares * 333 / (hundredths * 106)
            : squares * 355 / (hundredths * 113);
        return (int) eighths;
    }

    public int entry(int clerk, int eighths) {
        Told told = stand.told;
        if (clerk == NONE) {
            told.clearEntries();
            return 0;
        }
        if (!within(clerk, 0, Told.CLERKS - 1) || !within(eighths, 1, MOST_EIGHTHS)) {
            return refuse(UNTOLD);
        }
        if (told.entries >= Told.MOST_ENTRIES) {
            return refuse(NO_ROOM);
        }
        told.clerkSold[clerk] += eighths;
        told.entries++;
        return told.entries;
    }

    public int rod(int missing, int what) {
        if (!within(missing, -MOST_EIGHTHS, MOST_EIGHTHS) || !within(what, 0, 2)) {
            return NONE;
        }
        int twos = 0;
        int clerk = REFUSAL;
        int short64ths = 0;
        for (int c = 0; c < Told.CLERKS; c++) {
            for (int e = -8; e <= 8; e++) {
                if (e == 0 || e * stand.told.clerkSold[c] != 64 * missing) {
                    continue;
                }
                if (twos == 0) {
                    clerk = c;
                    short64ths = e;
                }
                twos++;
            }
        }
        if (what == 0) {
            return twos;
        }
        return what == 1 ? clerk : short64ths;
    }

    // ---- x, STATUS, counts and IMAGES

    public int seed(int x) {
        if (x < 0) {
            return refuse(UNTOLD);
        }
        int was = stand.x;
        stand.x = x;
        return was;
    }

    public int status(int reason) {
        return within(reason, 0, REASONS - 1) ? refusals[reason] : NONE;
    }

    public int count(int what) {
        switch (what) {
            case 0: return stand.shop.bales;
            case 1: return ruleCount;
            case 2: return stand.sold;
            case 3: return stand.lost;
            case 4: return stand.given;
            case 5: return stand.refused;
            case 6: return stand.ends;
            case 7: return stand.shop.eighthsLeft();
            case 8: return stand.day;
            case 9: return stand.x;
            case 10: return tape.length;
            case 11: return stand.told.knowns;
            case 12: return stand.told.entries;
            case 13: return stand.told.levels;
            case 14: return stand.shop.thumb;
            case 15: return stand.shop.askew;
            case 16: return stand.shop.board;
            default: return NONE;
        }
    }

    public int image(int k) {
        if (!within(k, 0, MOST_IMAGES - 1)) {
            return refuse(UNTOLD);
        }
        images[k].copyFrom(stand);
        imaged[k] = true;
        return stand.day;
    }

    public int back(int k) {
        if (!within(k, 0, MOST_IMAGES - 1) || !imaged[k]) {
            return refuse(UNTOLD);
        }
        stand.copyFrom(images[k]);
        return stand.day;
    }

    // ---- what the calls share

    private static boolean within(int n, int least, int most) {
        return n >= least && n <= most;
    }

    private static boolean isDay(int k, int w) {
        return within(k, 1, MOST_ORDERS) && within(w, 1, MOST_DRAWN);
    }

    private static boolean areDrops(int k, int d) {
        return within(k, 1, MOST_DROPS) && within(d, 1, MOST_DROP);
    }

    private boolean hasRule(int rule) {
        return within(rule, 0, ruleCount - 1);
    }

    private int refuse(int reason) {
        refusals[reason]++;
        return REFUSAL;
    }

    private int carryOff(int bale, int n, int beyond) {
        if (!stand.shop.has(bale) || !within(n, 1, MOST_EIGHTHS)) {
            return refuse(UNTOLD);
        }
        if (stand.shop.eighths[bale] < n) {
            return refuse(TOO_FEW);
        }
        return stand.sellFrom(bale, n, beyond);
    }

    /** The TAPE, and a cursor that reads it. */
    private static final class Text {
        static final int ROOM = 400;
        static final int TOO_LONG = 100000;
        private static final int MOST_DIGITS = 5;

        final int[] bytes = new int[ROOM];
        int length;
        int at;

        /** Four bytes, the highest first. */
        void append(int four) {
            for (int shift = 24; shift >= 0; shift -= 8) {
                if (length < ROOM) {
                    bytes[length] = (four >>> shift) & 255;
                    length++;
                }
            }
        }

        static int fault(int place, int kind) {
            return 1 + 8 * place + kind;
        }

        /** The byte at a place; NONE behind the last one. */
        int byteAt(int place) {
            return place >= 0 && place < length ? bytes[place] : NONE;
        }

        int peek() {
            return at < length ? bytes[at] : NONE;
        }

        void step() {
            at++;
        }

        /** Blanks are passed over: the place of what comes then. */
        int next() {
            while (at < length && bytes[at] == ' ') {
                at++;
            }
            return at;
        }

        /** The number of the word at the cursor, as far as letters go, among some; NONE for another. */
        int readWord(String words) {
            int from = at;
            while (at < length && bytes[at] >= 'a' && bytes[at] <= 'z') {
                at++;
            }
            int number = 0;
            int matched = from;
            boolean alike = true;
            for (int i = 0; i <= words.length(); i++) {
                if (i < words.length() && words.charAt(i) != ' ') {
                    alike = alike && matched < at && bytes[matched] == words.charAt(i);
                    matched++;
                    continue;
                }
                if (alike && matched == at) {
                    return number;
                }
                number++;
                matched = from;
                alike = true;
            }
            return NONE;
        }

        /** The NUMBER at the cursor; NONE without one, TOO_LONG with more digits than may be. */
        int readNumber() {
            int from = at;
            int number = 0;
            while (at < length && bytes[at] >= '0' && bytes[at] <= '9') {
                if (at - from < MOST_DIGITS) {
                    number = number * 10 + bytes[at] - '0';
                }
                at++;
            }
            if (at == from) {
                return NONE;
            }
            return at - from > MOST_DIGITS ? TOO_LONG : number;
        }
    }

    /** What a SHOP's text tells, and what the BALES have of it by now. */
    private static final class Shop {
        static final int MOST_BALES = 12;
        static final int MOST_FLAWS = 16;
        static final int MOST_FORMS = 8;
        static final int MOST_LOT = 9;
        static final int MOST_END = 80;

        final int[] eighths = new int[MOST_BALES];
        final int[] width = new int[MOST_BALES];
        final int[] lot = new int[MOST_BALES];
        final int[] stripe = new int[MOST_BALES];
        int bales;
        final int[] flawBale = new int[MOST_FLAWS];
        final int[] flawPlace = new int[MOST_FLAWS];
        int flaws;
        int thumb;
        int askew;
        int board;
        final int[] formLength = new int[MOST_FORMS];
        final int[] formWidth = new int[MOST_FORMS];
        final int[] formWorth = new int[MOST_FORMS];
        int forms;
        // 0: no pair is told
        int pairLength;
        int pairWorth;

        void clear() {
            bales = 0;
            flaws = 0;
            thumb = 0;
            askew = 0;
            board = 0;
            forms = 0;
            pairLength = 0;
            pairWorth = 0;
        }

        void copyFrom(Shop other) {
            bales = other.bales;
            flaws = other.flaws;
            thumb = other.thumb;
            askew = other.askew;
            board = other.board;
            forms = other.forms;
            pairLength = other.pairLength;
            pairWorth = other.pairWorth;
            for (int i = 0; i < MOST_BALES; i++) {
                eighths[i] = other.eighths[i];
                width[i] = other.width[i];
                lot[i] = other.lot[i];
                stripe[i] = other.stripe[i];
            }
            for (int i = 0; i < MOST_FLAWS; i++) {
                flawBale[i] = other.flawBale[i];
                flawPlace[i] = other.flawPlace[i];
            }
            for (int i = 0; i < MOST_FORMS; i++) {
                formLength[i] = other.formLength[i];
                formWidth[i] = other.formWidth[i];
                formWorth[i] = other.formWorth[i];
            }
        }

        boolean has(int bale) {
            return bale >= 0 && bale < bales;
        }

        boolean hasEnd(int bale) {
            return eighths[bale] >= 1 && eighths[bale] <= board;
        }

        int eighthsLeft() {
            int all = 0;
            for (int i = 0; i < bales; i++) {
                all += eighths[i];
            }
            return all;
        }

        /** How many FLAWS are in so many EIGHTHS from the open end. */
        int flawsWithin(int bale, int n) {
            int found = 0;
            for (int i = 0; i < flaws; i++) {
                if (flawBale[i] == bale && flawPlace[i] < n) {
                    found++;
                }
            }
            return found;
        }

        int nearestFlaw(int bale) {
            int nearest = NONE;
            for (int i = 0; i < flaws; i++) {
                if (flawBale[i] == bale && (nearest == NONE || flawPlace[i] < nearest)) {
                    nearest = flawPlace[i];
                }
            }
            return nearest;
        }

        /** What a BALE has behind a CUT. */
        int restBehind(int bale, int n, int beyond) {
            return Math.max(0, eighths[bale] - n - beyond);
        }

        /** So many EIGHTHS are taken from the open end, with the FLAWS that lie in them. */
        void shorten(int bale, int taken) {
            int kept = 0;
            for (int i = 0; i < flaws; i++) {
                boolean here = flawBale[i] == bale;
                if (here && flawPlace[i] < taken) {
                    continue;
                }
                flawBale[kept] = flawBale[i];
                flawPlace[kept] = here ? flawPlace[i] - taken : flawPlace[i];
                kept++;
            }
            flaws = kept;
            eighths[bale] -= taken;
        }

        /** How many DROPS a BALE has, as far as they are counted. */
        int dropsOf(int bale, int d) {
            int rest = eighths[bale];
            int drops = 0;
            while (drops < MOST_DROPS && rest >= d) {
                rest -= d + thumb;
                drops++;
            }
            return drops;
        }

        int dropsOfLot(int which, int d) {
            int drops = 0;
            for (int i = 0; i < bales; i++) {
                if (lot[i] == which) {
                    drops += dropsOf(i, d);
                }
            }
            return drops;
        }

        /** Whether behind what is cut away all FLAWS of k DROPS lie at their first or last EIGHTH. */
        boolean hidesFlaws(int bale, int away, int k, int d) {
            int behind = away + k * d;
            if (d <= 0 || behind > eighths[bale]) {
                return false;
            }
            for (int i = 0; i < flaws; i++) {
                int place = flawPlace[i];
                if (flawBale[i] != bale || place < away || place >= behind) {
                    continue;
                }
                int within = (place - away) % d;
                if (within != 0 && within != d - 1) {
                    return false;
                }
            }
            return true;
        }
    }

    /** What is told call by call: KNOWN ORDERS, WEIGHTS, LEVELS and the BOOKS. */
    private static final class Told {
        static final int MOST_KNOWN = 9;
        static final int MOST_WEIGHED = 8;
        static final int MOST_LEVELS = 5;
        static final int CLERKS = 6;
        static final int MOST_ENTRIES = 20;

        final int[] known = new int[MOST_KNOWN];
        int knowns;
        // by EIGHTHS, from 1
        final int[] weights = new int[MOST_WEIGHED + 1];
        final int[] levelPrice = new int[MOST_LEVELS];
        final int[] levelMost = new int[MOST_LEVELS];
        int levels;
        final int[] clerkSold = new int[CLERKS];
        int entries;

        void clear() {
            knowns = 0;
            levels = 0;
            for (int i = 0; i <= MOST_WEIGHED; i++) {
                weights[i] = 0;
            }
            clearEntries();
        }

        void clearEntries() {
            entries = 0;
            for (int i = 0; i < CLERKS; i++) {
                clerkSold[i] = 0;
            }
        }

        void copyFrom(Told other) {
            knowns = other.knowns;
            levels = other.levels;
            entries = other.entries;
            for (int i = 0; i < MOST_KNOWN; i++) {
                known[i] = other.known[i];
            }
            for (int i = 0; i <= MOST_WEIGHED; i++) {
                weights[i] = other.weights[i];
            }
            for (int i = 0; i < MOST_LEVELS; i++) {
                levelPrice[i] = other.levelPrice[i];
                levelMost[i] = other.levelMost[i];
            }
            for (int i = 0; i < CLERKS; i++) {
                clerkSold[i] = other.clerkSold[i];
            }
        }

        int knownEighths() {
            int all = 0;
            for (int i = 0; i < knowns; i++) {
                all += known[i];
            }
            return all;
        }
    }

    /** All that an IMAGE keeps. */
    private static final class Stand {
        static final int MOST_ENDS = 10;
        private static final long DRAW_TIMES = 1103515245L;
        private static final long DRAW_MORE = 12345L;
        private static final long DRAW_ROUND = 2147483648L;
        private static final int DRAW_PART = 65536;

        final Shop shop = new Shop();
        final Told told = new Told();
        final int[] endLength = new int[MOST_ENDS];
        final int[] endWidth = new int[MOST_ENDS];
        final int[] endLot = new int[MOST_ENDS];
        final int[] endFlaws = new int[MOST_ENDS];
        int ends;
        int sold;
        int lost;
        int given;
        int refused;
        int day;
        int x;
        private final long[] words = new long[Rule.WORD_COUNT];

        void copyFrom(Stand other) {
            shop.copyFrom(other.shop);
            told.copyFrom(other.told);
            for (int i = 0; i < MOST_ENDS; i++) {
                endLength[i] = other.endLength[i];
                endWidth[i] = other.endWidth[i];
                endLot[i] = other.endLot[i];
                endFlaws[i] = other.endFlaws[i];
            }
            ends = other.ends;
            sold = other.sold;
            lost = other.lost;
            given = other.given;
            refused = other.refused;
            day = other.day;
            x = other.x;
        }

        /** A new SHOP is opened; x goes on. */
        void open(Shop another) {
            shop.copyFrom(another);
            told.clear();
            ends = 0;
            clearCounts();
            day = 0;
        }

        void clearCounts() {
            sold = 0;
            lost = 0;
            given = 0;
            refused = 0;
        }

        boolean hasEnd(int end) {
            return end >= 0 && end < ends;
        }

        /** The END of a BALE that has one, where there is room. */
        void putIntoBasket(int bale) {
            if (ends >= MOST_ENDS) {
                return;
            }
            int length = shop.eighths[bale];
            endLength[ends] = length;
            endWidth[ends] = shop.width[bale];
            endLot[ends] = shop.lot[bale];
            endFlaws[ends] = shop.flawsWithin(bale, length);
            ends++;
            shop.shorten(bale, length);
        }

        int takeOutOfBasket(int end) {
            int length = endLength[end];
            for (int i = end; i + 1 < ends; i++) {
                endLength[i] = endLength[i + 1];
                endWidth[i] = endWidth[i + 1];
                endLot[i] = endLot[i + 1];
                endFlaws[i] = endFlaws[i + 1];
            }
            ends--;
            return length;
        }

        /** A CUT that can be: how many FLAWS are in what is SOLD. */
        int sellFrom(int bale, int n, int beyond) {
            int flawed = shop.flawsWithin(bale, n);
            int taken = shop.eighths[bale] - shop.restBehind(bale, n, beyond);
            shop.shorten(bale, taken);
            sold += n;
            lost += taken - n;
            return flawed;
        }

        /** An ORDER is SERVED: the BALE; NONE where it is REFUSED. */
        int fillOrder(Rule rule, int n) {
            int bale = bestBale(rule, n);
            if (bale == NONE) {
                refused++;
                return NONE;
            }
            setWords(bale, n);
            boolean gives = rule.gives(words);
            sellFrom(bale, n, shop.thumb);
            if (gives && shop.hasEnd(bale)) {
                given += shop.eighths[bale];
                shop.shorten(bale, shop.eighths[bale]);
            }
            return bale;
        }

        private int bestBale(Rule rule, int n) {
            int best = NONE;
            long least = 0;
            for (int i = 0; i < shop.bales; i++) {
                if (shop.eighths[i] < n) {
                    continue;
                }
                setWords(i, n);
                int clause = rule.clauseFor(words);
                if (clause == NONE) {
                    continue;
                }
                long sum = rule.sumOf(clause, words);
                if (best == NONE || sum < least) {
                    best = i;
                    least = sum;
                }
            }
            return best;
        }

        /** What the WORDS say of a BALE and an ORDER, in the order of Rule.WORDS. */
        private void setWords(int bale, int n) {
            words[0] = shop.eighths[bale];
            words[1] = n;
            words[2] = shop.restBehind(bale, n, shop.thumb);
            words[3] = shop.flawsWithin(bale, n);
            words[4] = shop.width[bale];
            words[5] = shop.lot[bale];
            words[6] = shop.stripe[bale];
            words[7] = bale;
            words[8] = day;
        }

        void runDay(Rule rule, int k, int w) {
            for (int i = 0; i < k; i++) {
                int drawn = draw();
                fillOrder(rule, w > 0 ? 1 + drawn % w : 1);
            }
            day++;
        }

        private int draw() {
            x = (int) ((x * DRAW_TIMES + DRAW_MORE) % DRAW_ROUND);
            return x / DRAW_PART;
        }
    }

    /** A RULE: CLAUSES of steps that run over a pile of values. */
    private static final class Rule {
        static final String WORDS = "left order rest flaws width lot stripe bale day";
        static final int WORD_COUNT = 9;
        static final int MOST_CLAUSES = 12;

        // the kinds of steps
        static final int NUMBER = 0;
        static final int WORD = 1;
        static final int TIMES = 2;
        static final int OVER = 3;
        static final int REST = 4;
        static final int PLUS = 5;
        static final int MINUS = 6;
        static final int BELOW = 7;
        static final int AT_MOST = 8;
        static final int SAME = 9;
        static final int AT_LEAST = 10;
        static final int ABOVE = 11;
        static final int NOT = 12;
        static final int AND = 13;
        static final int OR = 14;
        private static final int KINDS = 16;

        // every step comes of a byte of the TAPE that no other step comes of
        private final int[] steps = new int[Text.ROOM];
        private int size;
        // of each CLAUSE: whether it is a from CLAUSE, where its SUM and its TEST begin and where it ends
        private final boolean[] isFrom = new boolean[MOST_CLAUSES];
        private final int[] sumStart = new int[MOST_CLAUSES];
        private final int[] testStart = new int[MOST_CLAUSES];
        private final int[] stop = new int[MOST_CLAUSES];
        private int clauses;
        // in each of 11 depths an or and an and can wait, in the last a SIGN, a + and a * too
        private final long[] pile = new long[40];

        void clear() {
            size = 0;
            clauses = 0;
        }

        void copyFrom(Rule other) {
            size = other.size;
            clauses = other.clauses;
            for (int i = 0; i < steps.length; i++) {
                steps[i] = other.steps[i];
            }
            for (int i = 0; i < MOST_CLAUSES; i++) {
                isFrom[i] = other.isFrom[i];
                sumStart[i] = other.sumStart[i];
                testStart[i] = other.testStart[i];
                stop[i] = other.stop[i];
            }
        }

        void beginClause(boolean from) {
            if (clauses < MOST_CLAUSES) {
                isFrom[clauses] = from;
                sumStart[clauses] = size;
                clauses++;
            }
            beginTest();
        }

        void beginTest() {
            if (clauses > 0) {
                testStart[clauses - 1] = size;
                stop[clauses - 1] = size;
            }
        }

        void append(int kind, int number) {
            if (size < steps.length) {
                steps[size] = kind + KINDS * number;
                size++;
            }
            if (clauses > 0) {
                stop[clauses - 1] = size;
            }
        }

        /** The first from CLAUSE without a TEST, or whose TEST holds; NONE without one. */
        int clauseFor(long[] words) {
            for (int i = 0; i < clauses; i++) {
                if (isFrom[i] && (testStart[i] == stop[i] || holds(i, words))) {
                    return i;
                }
            }
            return NONE;
        }

        long sumOf(int clause, long[] words) {
            return run(sumStart[clause], testStart[clause], words);
        }

        boolean gives(long[] words) {
            for (int i = 0; i < clauses; i++) {
                if (!isFrom[i] && holds(i, words)) {
                    return true;
                }
            }
            return false;
        }

        private boolean holds(int clause, long[] words) {
            return run(testStart[clause], stop[clause], words) != 0;
        }

        /** The value on which some steps end. */
        private long run(int from, int to, long[] words) {
            int high = 0;
            for (int i = from; i < to && i < size; i++) {
                int kind = steps[i] % KINDS;
                int number = steps[i] / KINDS;
                if (kind == NUMBER || kind == WORD) {
                    if (high < pile.length) {
                        pile[high] = kind == NUMBER || number >= words.length ? number : words[number];
                        high++;
                    }
                } else if (kind == NOT) {
                    if (high >= 1) {
                        pile[high - 1] = 1 - pile[high - 1];
                    }
                } else if (high >= 2) {
                    high--;
                    pile[high - 1] = join(kind, pile[high - 1], pile[high]);
                }
            }
            return high > 0 ? pile[0] : 0;
        }

        private static long join(int kind, long a, long b) {
            switch (kind) {
                case TIMES: return a * b;
                case OVER: return b == 0 ? 0 : a / b;
                case REST: return b == 0 ? 0 : a % b;
                case PLUS: return a + b;
                case MINUS: return a - b;
                case BELOW: return a < b ? 1 : 0;
                case AT_MOST: return a <= b ? 1 : 0;
                case SAME: return a == b ? 1 : 0;
                case AT_LEAST: return a >= b ? 1 : 0;
                case ABOVE: return a > b ? 1 : 0;
                case AND: return a & b;
                default: return a | b;
            }
        }
    }

    /** Reads the TAPE as a SHOP. */
    private static final class ShopReader {
        private static final String KINDS = "bale flaw thumb askew board form pair";
        private static final int BALE = 0;
        private static final int FLAW = 1;
        private static final int THUMB = 2;
        private static final int ASKEW = 3;
        private static final int BOARD = 4;
        private static final int FORM = 5;
        private static final int KIND_COUNT = 7;
        private static final int MOST_CLAUSES = 32;
        private static final int MOST_NUMBERS = 4;
        // by kind
        private static final int[] MOST_TOLD = {12, 16, 1, 1, 1, 8, 1};
        private static final int[] NUMBERS = {4, 2, 1, 1, 1, 3, 2};
        // by kind, four each; those of a FLAW go by what is told of BALES
        private static final int[] LEAST = {
            1, 1, 0, 0,  0, 0, 0, 0,  0, 0, 0, 0,  0, 0, 0, 0,
            0, 0, 0, 0,  1, 1, 0, 0,  1, 0, 0, 0,
        };
        private static final int[] MOST = {
            480, 99, 9, 96,  0, 0, 0, 0,  8, 0, 0, 0,  8, 0, 0, 0,
            80, 0, 0, 0,  80, 99, 999, 0,  80, 999, 0, 0,
        };

        final Shop draft = new Shop();
        private final int[] numbers = new int[MOST_NUMBERS];
        private final int[] told = new int[KIND_COUNT];

        /** The draft is what the TAPE tells: 0, or the first FAULT. */
        int read(Text text) {
            draft.clear();
            for (int i = 0; i < KIND_COUNT; i++) {
                told[i] = 0;
            }
            text.at = 0;
            for (int i = 0; i <= MOST_CLAUSES; i++) {
                int fault = readClause(text, i == MOST_CLAUSES);
                if (fault != 0) {
                    return fault;
                }
                int place = text.next();
                if (text.peek() == NONE) {
                    return draft.bales > 0 ? 0 : Text.fault(place, 0);
                }
                if (text.peek() != ';') {
                    return Text.fault(place, 0);
                }
                text.step();
            }
            return Text.fault(text.next(), 4);
        }

        private int readClause(Text text, boolean full) {
            int place = text.next();
            int kind = text.readWord(KINDS);
            if (kind == NONE) {
                return Text.fault(place, 0);
            }
            if (full || told[kind] >= MOST_TOLD[kind]) {
                return Text.fault(place, 4);
            }
            for (int i = 0; i < NUMBERS[kind] && i < MOST_NUMBERS; i++) {
                place = text.next();
                int number = text.readNumber();
                if (number == NONE) {
                    return Text.fault(place, 0);
                }
                if (number < LEAST[kind * MOST_NUMBERS + i] || number > most(kind, i)) {
                    return Text.fault(place, 1);
                }
                numbers[i] = number;
            }
            keep(kind, told[kind]);
            told[kind]++;
            return 0;
        }

        private int most(int kind, int i) {
            if (kind != FLAW) {
                return MOST[kind * MOST_NUMBERS + i];
            }
            if (i == 0) {
                return draft.bales - 1;
            }
            return draft.has(numbers[0]) ? draft.eighths[numbers[0]] - 1 : NONE;
        }

        /** The CLAUSE, the nth of its kind, comes into the draft. */
        private void keep(int kind, int nth) {
            switch (kind) {
                case BALE:
                    draft.eighths[nth] = numbers[0];
                    draft.width[nth] = numbers[1];
                    draft.lot[nth] = numbers[2];
                    draft.stripe[nth] = numbers[3];
                    draft.bales = nth + 1;
                    break;
                case FLAW:
                    draft.flawBale[nth] = numbers[0];
                    draft.flawPlace[nth] = numbers[1];
                    draft.flaws = nth + 1;
                    break;
                case THUMB:
                    draft.thumb = numbers[0];
                    break;
                case ASKEW:
                    draft.askew = numbers[0];
                    break;
                case BOARD:
                    draft.board = numbers[0];
                    break;
                case FORM:
                    draft.formLength[nth] = numbers[0];
                    draft.formWidth[nth] = numbers[1];
                    draft.formWorth[nth] = numbers[2];
                    draft.forms = nth + 1;
                    break;
                default:
                    draft.pairLength = numbers[0];
                    draft.pairWorth = numbers[1];
                    break;
            }
        }
    }

    /** Reads the TAPE as a RULE. */
    private static final class RuleReader {
        private static final int MOST_DEEP = 10;
        private static final int MOST_PARTS = 60;
        private static final int FROM = 0;
        private static final int OPEN = 15;

        final Rule draft = new Rule();
        // VALUES and FACTS made of a SIGN so far
        private int parts;
        // the kind of step of the SIGN that was read last
        private int sign;
        // what of a TEST waits for a FACT: not, [, and those of and and or that bind less
        private final int[] waiting = new int[40];
        private int waits;
        private int open;
        private int deep;

        /** The draft is what the TAPE tells: 0, or the first FAULT. */
        int read(Text text) {
            draft.clear();
            parts = 0;
            text.at = 0;
            for (int i = 0; i <= Rule.MOST_CLAUSES; i++) {
                int fault = readClause(text, i == Rule.MOST_CLAUSES);
                if (fault != 0) {
                    return fault;
                }
                if (text.peek() == NONE) {
                    return 0;
                }
                text.step();
            }
            return Text.fault(text.next(), 4);
        }

        /** A CLAUSE, up to the ; or the end behind it. */
        private int readClause(Text text, boolean full) {
            int place = text.next();
            int word = text.readWord("from give");
            if (word == NONE) {
                return Text.fault(place, 0);
            }
            if (full) {
                return Text.fault(place, 4);
            }
            draft.beginClause(word == FROM);
            if (word != FROM) {
                return readTest(text);
            }
            int fault = readSum(text);
            if (fault != 0) {
                return fault;
            }
            draft.beginTest();
            place = text.next();
            return text.readWord("if") == NONE ? clauseEnd(text, place) : readTest(text);
        }

        private int clauseEnd(Text text, int place) {
            int behind = text.byteAt(place);
            return behind == NONE || behind == ';' ? 0 : Text.fault(place, 0);
        }

        private int readTest(Text text) {
            waits = 0;
            open = 0;
            deep = 0;
            // each turn reads a FACT made of a SIGN, with every not and [ ahead of it
            for (int i = 0; i <= MOST_PARTS; i++) {
                int fault = readOpenings(text);
                if (fault == 0) {
                    fault = readSum(text);
                }
                if (fault == 0) {
                    fault = readSign(text);
                }
                if (fault == 0) {
                    fault = readSum(text);
                }
                if (fault != 0) {
                    return fault;
                }
                draft.append(sign, 0);
                closeBrackets(text);
                int place = text.next();
                int word = text.readWord("and or");
                if (word == NONE) {
                    settle(true);
                    return open > 0 ? Text.fault(place, 0) : clauseEnd(text, place);
                }
                settle(word == 1);
                hold(word == 1 ? Rule.OR : Rule.AND);
            }
            return Text.fault(text.next(), 3);
        }

        private int readOpenings(Text text) {
            for (int i = 0; i <= MOST_DEEP; i++) {
                int place = text.next();
                int opening = readOpening(text);
                if (opening == NONE) {
                    return 0;
                }
                if (deep >= MOST_DEEP) {
                    return Text.fault(place, 2);
                }
                hold(opening);
                deep++;
                open += opening == OPEN ? 1 : 0;
            }
            return 0;
        }

        private int readOpening(Text text) {
            if (text.peek() == '[') {
                text.step();
                return OPEN;
            }
            int place = text.at;
            if (text.readWord("not") != NONE) {
                return Rule.NOT;
            }
            // another word is a VALUE, for readSum
            text.at = place;
            return NONE;
        }

        /** Behind a FACT: every not that waits for it is settled, and every ] with its own. */
        private void closeBrackets(Text text) {
            for (int i = 0; i <= MOST_DEEP; i++) {
                settleNots();
                text.next();
                if (text.peek() != ']' || open == 0) {
                    return;
                }
                text.step();
                settle(true);
                if (waits > 0) {
                    waits--;
                }
                open--;
                deep--;
            }
        }

        private void settleNots() {
            for (int i = waits; i > 0 && waiting[i - 1] == Rule.NOT; i--) {
                draft.append(Rule.NOT, 0);
                waits--;
                deep--;
            }
        }

        /** The ands on top are settled, with the ors if these are too. */
        private void settle(boolean ors) {
            for (int i = waits; i > 0; i--) {
                int kind = waiting[i - 1];
                if (kind != Rule.AND && !(ors && kind == Rule.OR)) {
                    return;
                }
                draft.append(kind, 0);
                waits--;
            }
        }

        private void hold(int kind) {
            if (waits < waiting.length) {
                waiting[waits] = kind;
                waits++;
            }
        }

        private int readSum(Text text) {
            int times = NONE;
            int plus = NONE;
            // each turn reads a VALUE
            for (int i = 0; i <= MOST_PARTS; i++) {
                int fault = readValue(text);
                if (fault != 0) {
                    return fault;
                }
                if (times != NONE) {
                    draft.append(times, 0);
                    times = NONE;
                }
                text.next();
                int kind = readBetween(text);
                if (kind == Rule.TIMES || kind == Rule.OVER || kind == Rule.REST) {
                    times = kind;
                    continue;
                }
                if (plus != NONE) {
                    draft.append(plus, 0);
                }
                if (kind == NONE) {
                    return 0;
                }
                plus = kind;
            }
            return Text.fault(text.next(), 3);
        }

        private int readValue(Text text) {
            int place = text.next();
            int kind = Rule.NUMBER;
            int number = text.readNumber();
            if (number == NONE) {
                kind = Rule.WORD;
                number = text.readWord(Rule.WORDS);
            }
            if (number == NONE) {
                return Text.fault(place, 0);
            }
            if (number >= Text.TOO_LONG) {
                return Text.fault(place, 1);
            }
            if (parts >= MOST_PARTS) {
                return Text.fault(place, 3);
            }
            parts++;
            draft.append(kind, number);
            return 0;
        }

        /** What stands between two VALUES, or NONE, and then nothing is passed over. */
        private int readBetween(Text text) {
            int kind;
            switch (text.peek()) {
                case '*': kind = Rule.TIMES; break;
                case '/': kind = Rule.OVER; break;
                case '%': kind = Rule.REST; break;
                case '+': kind = Rule.PLUS; break;
                case '-': kind = Rule.MINUS; break;
                default: return NONE;
            }
            text.step();
            return kind;
        }

        /** The SIGN of a FACT. */
        private int readSign(Text text) {
            int place = text.next();
            int first = text.peek();
            if (first != '<' && first != '=' && first != '>') {
                return Text.fault(place, 0);
            }
            if (parts >= MOST_PARTS) {
                return Text.fault(place, 3);
            }
            parts++;
            text.step();
            boolean same = first != '=' && text.peek() == '=';
            if (same) {
                text.step();
            }
            if (first == '<') {
                sign = same ? Rule.AT_MOST : Rule.BELOW;
            } else if (first == '>') {
                sign = same ? Rule.AT_LEAST : Rule.ABOVE;
            } else {
                sign = Rule.SAME;
            }
            return 0;
        }
    }

    /** What can be MADE of ENDS. */
    private static final class Forms {
        // the most WORTH by length, of the width that was laid last
        private final int[] worth = new int[Shop.MOST_END + 1];
        private final int[] alone = new int[Stand.MOST_ENDS];
        private final boolean[] paired = new boolean[Stand.MOST_ENDS];

        void lay(Shop shop, int width) {
            worth[0] = 0;
            for (int length = 1; length <= Shop.MOST_END; length++) {
                int most = 0;
                for (int f = 0; f < shop.forms; f++) {
                    if (fits(shop, f, length, width)) {
                        most = Math.max(most, worthWith(shop, f, length));
                    }
                }
                worth[length] = most;
            }
        }

        private static boolean fits(Shop shop, int form, int length, int width) {
            return shop.formWidth[form] <= width && shop.formLength[form] <= length;
        }

        private int worthWith(Shop shop, int form, int length) {
            return shop.formWorth[form] + worth[length - shop.formLength[form]];
        }

        int worthOf(int length) {
            return worth[length];
        }

        /** The least FORM behind which the most WORTH is left, of the width that was laid last. */
        int firstOf(Shop shop, int length, int width) {
            for (int f = 0; f < shop.forms; f++) {
                if (fits(shop, f, length, width) && worthWith(shop, f, length) == worth[length]) {
                    return f;
                }
            }
            return REFUSAL;
        }

        /** The greatest length up to which no END is WORTH more. */
        int longestWorth(int most) {
            int longest = 0;
            while (longest < Shop.MOST_END && worth[longest + 1] <= most) {
                longest++;
            }
            return longest;
        }

        int worthOfBasket(Stand stand) {
            int all = 0;
            for (int i = 0; i < stand.ends; i++) {
                lay(stand.shop, stand.endWidth[i]);
                alone[i] = worth[stand.endLength[i]];
                paired[i] = stand.endLength[i] < stand.shop.pairLength;
                all += alone[i];
            }
            if (stand.shop.pairLength == 0) {
                return all;
            }
            for (int lot = 0; lot <= Shop.MOST_LOT; lot++) {
                all += gainOfPairs(stand, lot);
            }
            return all;
        }

        /** Pairs of the ENDS of a lot that are worth least alone, as long as these gain. */
        private int gainOfPairs(Stand stand, int lot) {
            int all = 0;
            for (int i = 0; i < Stand.MOST_ENDS; i++) {
                int one = leastAlone(stand, lot, NONE);
                int other = leastAlone(stand, lot, one);
                if (one == NONE || other == NONE) {
                    return all;
                }
                int gain = stand.shop.pairWorth - alone[one] - alone[other];
                if (gain <= 0) {
                    return all;
                }
                paired[one] = true;
                paired[other] = true;
                all += gain;
            }
            return all;
        }

        private int leastAlone(Stand stand, int lot, int besides) {
            int least = NONE;
            for (int i = 0; i < stand.ends; i++) {
                if (paired[i] || i == besides || stand.endLot[i] != lot) {
                    continue;
                }
                if (least == NONE || alone[i] < alone[least]) {
                    least = i;
                }
            }
            return least;
        }
    }

    /** KNOWN ORDERS all at once. */
    private static final class KnownPlan {
        private static final int SETS = 1 << Told.MOST_KNOWN;
        private static final int NEVER = 1000000;
        // what a BALE that is cut costs against an EIGHTH that is LOST, of which there are fewer
        private static final int BALE_COST = 1000;

        // by the set of ORDERS, as bits
        private final int[] eighths = new int[SETS];
        private final int[] cost = new int[SETS];
        int sold;
        int bales;
        int lost;

        void work(Shop shop, Told told) {
            int sets = 1 << told.knowns;
            addUp(told);
            cost[0] = 0;
            for (int set = 1; set < sets; set++) {
                cost[set] = NEVER;
            }
            for (int i = 0; i < shop.bales; i++) {
                if (shop.eighths[i] > 0) {
                    addBale(sets, shop.eighths[i], shop.thumb);
                }
            }
            choose(sets);
        }

        private void addUp(Told told) {
            eighths[0] = 0;
            for (int i = 0; i < told.knowns; i++) {
                int bit = 1 << i;
                for (int set = 0; set < bit; set++) {
                    eighths[bit + set] = eighths[set] + told.known[i];
                }
            }
        }

        /** From the greatest set downwards, so that what is read is without this BALE. */
        private void addBale(int sets, int left, int thumb) {
            for (int set = sets - 1; set > 0; set--) {
                int least = cost[set];
                for (int part = set; part > 0; part = (part - 1) & set) {
                    int before = cost[set - part];
                    if (before + BALE_COST >= least || eighths[part] > left) {
                        continue;
                    }
                    int cuts = Integer.bitCount(part);
                    if (eighths[part] + (cuts - 1) * thumb <= left) {
                        int beyond = Math.min(left - eighths[part], cuts * thumb);
                        least = Math.min(least, before + BALE_COST + beyond);
                    }
                }
                cost[set] = least;
            }
        }

        private void choose(int sets) {
            int best = 0;
            for (int set = 1; set < sets; set++) {
                if (cost[set] >= NEVER || eighths[set] < eighths[best]) {
                    continue;
                }
                if (eighths[set] > eighths[best] || cost[set] < cost[best]) {
                    best = set;
                }
            }
            sold = eighths[best];
            bales = cost[best] / BALE_COST;
            lost = cost[best] % BALE_COST;
        }
    }

    /** WHICH BALE to CUT while others may yet be asked. */
    private static final class WhichPlan {
        static final int MOST_MORE = 4;
        private static final int MOST_BALES = 3;
        private static final int MOST_LEFT = 40;

        private final int[] bales = new int[MOST_BALES];
        private final int[] left = new int[MOST_BALES];
        private int thumb;
        private final int[] weights = new int[Told.MOST_WEIGHED + 1];
        // the last ORDER's mean by the greatest BALE, times all WEIGHTS
        private final long[] last = new long[Told.MOST_WEIGHED + 1];
        // all WEIGHTS, as often times themselves as ORDERS are to come
        private final long[] power = new long[MOST_MORE + 1];
        int bale;
        long above;
        long below;

        /** Takes what there is; false with too many or too great BALES, or without WEIGHTS. */
        boolean takes(Shop shop, Told told) {
            return takesBales(shop) && takesWeights(told);
        }

        private boolean takesBales(Shop shop) {
            thumb = shop.thumb;
            int taken = 0;
            for (int i = 0; i < MOST_BALES; i++) {
                bales[i] = NONE;
                left[i] = 0;
            }
            for (int i = 0; i < shop.bales; i++) {
                if (shop.eighths[i] == 0) {
                    continue;
                }
                if (taken >= MOST_BALES || shop.eighths[i] > MOST_LEFT) {
                    return false;
                }
                bales[taken] = i;
                left[taken] = shop.eighths[i];
                taken++;
            }
            return true;
        }

        private boolean takesWeights(Told told) {
            int all = 0;
            last[0] = 0;
            for (int i = 1; i <= Told.MOST_WEIGHED; i++) {
                weights[i] = told.weights[i];
                last[i] = last[i - 1] + weights[i] * i;
                all += weights[i];
            }
            power[0] = 1;
            for (int i = 1; i <= MOST_MORE; i++) {
                power[i] = power[i - 1] * all;
            }
            return all > 0;
        }

        void work(int order, int more) {
            bale = NONE;
            above = NONE;
            for (int i = 0; i < MOST_BALES; i++) {
                if (left[i] < order) {
                    continue;
                }
                long later = mean(this, more, rest(0, i, order), rest(1, i, order), rest(2, i, order));
                long sold = order * power[more] + later;
                if (sold > above) {
                    bale = bales[i];
                    above = sold;
                }
            }
            long kept = mean(this, more, left[0], left[1], left[2]);
            if (kept > above) {
                bale = NONE;
                above = kept;
            }
            below = power[more];
            shortenFraction();
        }

        private int rest(int i, int isCut, int order) {
            return i == isCut ? behind(left[i], order) : left[i];
        }

        private int behind(int has, int order) {
            return Math.max(0, has - order - thumb);
        }

        /** What is SOLD on the mean with so many ORDERS to come, times the power of these. */
        private static long mean(WhichPlan plan, int more, int a, int b, int c) {
            if (more <= 0 || more > MOST_MORE) {
                return 0;
            }
            if (more == 1) {
                return plan.last[Math.min(Told.MOST_WEIGHED, Math.max(a, Math.max(b, c)))];
            }
            long kept = mean(plan, more - 1, a, b, c);
            long all = 0;
            for (int n = 1; n <= Told.MOST_WEIGHED; n++) {
                if (plan.weights[n] == 0) {
                    continue;
                }
                long best = kept;
                long sold = n * plan.power[more - 1];
                if (a >= n) {
                    best = Math.max(best, sold + mean(plan, more - 1, plan.behind(a, n), b, c));
                }
                if (b >= n) {
                    best = Math.max(best, sold + mean(plan, more - 1, a, plan.behind(b, n), c));
                }
                if (c >= n) {
                    best = Math.max(best, sold + mean(plan, more - 1, a, b, plan.behind(c, n)));
                }
                all += plan.weights[n] * best;
            }
            return all;
        }

        private void shortenFraction() {
            long a = below;
            long b = above;
            // Euclid's steps go down to 0, in far fewer turns than a long has bits twice
            for (int i = 0; i < 200 && b != 0; i++) {
                long rest = a % b;
                a = b;
                b = rest;
            }
            if (a > 0) {
                above /= a;
                below /= a;
            }
        }
    }

    /** The SALE by weeks. */
    private static final class SalePlan {
        private static final int ROW = MOST_EIGHTHS + 1;

        // the most coins of the weeks that follow, by the least LEVEL that may be and what is left
        private final int[] follow = new int[Told.MOST_LEVELS * ROW];
        private int lost;
        int coins;
        int first;

        void work(Told told, int eighths, int weeks, int lostOfHundred) {
            lost = lostOfHundred;
            for (int i = 0; i < follow.length; i++) {
                follow[i] = 0;
            }
            for (int week = 1; week < weeks; week++) {
                addWeek(told, eighths);
            }
            coins = NONE;
            first = NONE;
            for (int level = 0; level < told.levels; level++) {
                int by = coinsBy(told, level, eighths);
                if (by > coins) {
                    coins = by;
                    first = level;
                }
            }
        }

        /** From the most EIGHTHS downwards, so that what is read is of the weeks that follow. */
        private void addWeek(Told told, int eighths) {
            for (int left = eighths; left >= 0; left--) {
                int best = 0;
                for (int level = told.levels - 1; level >= 0; level--) {
                    best = Math.max(best, coinsBy(told, level, left));
                    follow[level * ROW + left] = best;
                }
            }
        }

        private int coinsBy(Told told, int level, int left) {
            int sold = Math.min(left, told.levelMost[level]);
            int rest = left - sold;
            rest -= rest * lost / 100;
            return told.levelPrice[level] * sold + follow[level * ROW + rest];
        }
    }
}
