/** What the tests share: due answers, and texts that come onto the TAPE. */
final class Check {
    private final String name;
    private int wrong;
    private int asked;

    Check(String name) {
        this.name = name;
    }

    void due(String call, long got, long want) {
        asked++;
        if (got != want) {
            wrong++;
            System.out.println(name + ": " + call + " answered " + got + ", due is " + want);
        }
    }

    void holds(String what, boolean is) {
        due(what, is ? 1 : 0, 1);
    }

    /** Exit code 1 if an answer was not the one that was due. */
    void done() {
        System.out.println(name + ": " + asked + " answers, " + wrong + " of them wrong");
        if (wrong != 0) {
            System.exit(1);
        }
    }

    /** The text is the whole TAPE then; false if it has no room. */
    static boolean tape(ClothEnds x, String text) {
        x.end(0);
        for (int at = 0; at < text.length(); at += 20) {
            int[] five = new int[5];
            for (int i = 0; i < 20; i++) {
                int sign = at + i < text.length() ? text.charAt(at + i) : 0;
                five[i / 4] = five[i / 4] << 8 | sign;
            }
            if (x.feed(five[0], five[1], five[2], five[3], five[4]) == ClothEnds.NONE) {
                return false;
            }
        }
        return x.end(text.length()) == text.length();
    }

    static int shop(ClothEnds x, String text) {
        tape(x, text);
        return x.shop();
    }

    static int rule(ClothEnds x, String text) {
        tape(x, text);
        return x.rule();
    }

    /** A new object with a SHOP. */
    static ClothEnds with(String shop) {
        ClothEnds x = new ClothEnds();
        if (shop(x, shop) < 0) {
            throw new IllegalArgumentException("no SHOP: " + shop);
        }
        return x;
    }

    /** The answer for a FAULT. */
    static int fault(int place, int kind) {
        return -2 - (1 + 8 * place + kind);
    }

    static String times(String part, int n, String between) {
        StringBuilder all = new StringBuilder();
        for (int i = 0; i < n; i++) {
            all.append(i == 0 ? "" : between).append(part);
        }
        return all.toString();
    }
}
