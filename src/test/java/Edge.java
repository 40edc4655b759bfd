import java.lang.reflect.InvocationTargetException;
import java.lang.reflect.Method;
import java.util.ArrayList;
import java.util.Comparator;
import java.util.List;
import java.util.function.Supplier;
import java.util.function.ToLongFunction;

/** What the test of a sentence asks with: all that goes wrong is told with its promise and its words. */
final class Edge {
    private final Check check;
    private final String name;
    private int asked;

    private Edge(Check check, String name) {
        this.check = check;
        this.name = name;
    }

    /** Runs each test of a class, one by one, and ends with exit code 1 if an answer was wrong. */
    static void run(Class<?> tests) throws IllegalAccessException {
        Check check = new Check(tests.getSimpleName());
        List<Method> methods = new ArrayList<>(List.of(tests.getDeclaredMethods()));
        methods.removeIf(m -> !m.isAnnotationPresent(Sentence.class));
        methods.sort(Comparator.comparing(Method::getName));
        for (Method m : methods) {
            Sentence sentence = m.getAnnotation(Sentence.class);
            Edge edge = new Edge(check, "promise " + sentence.promise() + ", '" + sentence.says() + "', " + m.getName());
            try {
                m.invoke(null, edge);
            } catch (InvocationTargetException e) {
                check.holds(edge.name + ": no " + e.getCause(), false);
            }
            check.holds(edge.name + " asks something", edge.asked > 0);
        }
        check.holds("there are tests", !methods.isEmpty());
        check.done();
    }

    void due(String call, long got, long want) {
        asked++;
        check.due(name + ": " + call, got, want);
    }

    void holds(String what, boolean is) {
        due(what, is ? 1 : 0, 1);
    }

    void dueAll(String calls, long[] got, long... want) {
        due(calls + ", how many", got.length, want.length);
        for (int i = 0; i < got.length && i < want.length; i++) {
            due(calls + ", number " + i, got[i], want[i]);
        }
    }

    /** EIGHTHS, width, lot, stripe, FLAWS, nearest FLAW, whether an END: as far as they are told. */
    void dueBale(ClothEnds x, int bale, int... want) {
        for (int what = 0; what < want.length; what++) {
            due("bale(" + bale + ", " + what + ")", x.bale(bale, what), want[what]);
        }
    }

    /** Length, width, lot, FLAWS: as far as they are told. */
    void dueEnd(ClothEnds x, int end, int... want) {
        for (int what = 0; what < want.length; what++) {
            due("ends(" + end + ", " + what + ")", x.ends(end, what), want[what]);
        }
    }

    void dueStatus(ClothEnds x, int untold, int tooFew, int noRoom) {
        due("status(0)", x.status(0), untold);
        due("status(1)", x.status(1), tooFew);
        due("status(2)", x.status(2), noRoom);
    }

    void shop(String text, int want) {
        due("shop of '" + text + "'", Check.shop(new ClothEnds(), text), want);
    }

    void shopFault(String text, int place, int kind) {
        shop(text, Check.fault(place, kind));
    }

    void rule(String text, int want) {
        due("rule of '" + text + "'", Check.rule(new ClothEnds(), text), want);
    }

    void ruleFault(String text, int place, int kind) {
        rule(text, Check.fault(place, kind));
    }

    /** The answer, with nothing changed and nothing counted by STATUS. */
    void answers(Supplier<ClothEnds> made, String call, ToLongFunction<ClothEnds> does, long want) {
        refuses(made, call, does, want, -1);
    }

    void answersNone(Supplier<ClothEnds> made, String call, ToLongFunction<ClothEnds> does) {
        answers(made, call, does, ClothEnds.NONE);
    }

    /** -2, with nothing changed, counted once by STATUS. */
    void refuses(Supplier<ClothEnds> made, String call, ToLongFunction<ClothEnds> does, int reason) {
        refuses(made, call, does, -2, reason);
    }

    private void refuses(Supplier<ClothEnds> made, String call, ToLongFunction<ClothEnds> does, long want, int reason) {
        ClothEnds x = made.get();
        int[] refused = {x.status(0), x.status(1), x.status(2)};
        String was = state(x);
        due(call, does.applyAsLong(x), want);
        holds(call + " changes nothing: " + was + " and " + state(x), was.equals(state(x)));
        for (int i = 0; i < 3; i++) {
            due("status(" + i + ") behind " + call, x.status(i), refused[i] + (i == reason ? 1 : 0));
        }
    }

    /** An object that has something of all there is; two calls are refused. */
    static ClothEnds rich() {
        ClothEnds x = Check.with("bale 30 36 1 5;bale 20 54 2 0;bale 6 54 1 3;bale 5 36 3 0;"
            + "flaw 0 3;flaw 0 9;flaw 1 19;flaw 3 2;thumb 1;askew 2;board 6;form 2 36 5;form 3 54 9;pair 4 30");
        Check.rule(x, "from 0-left if left>order+1;give rest<4");
        x.basket(3);
        x.known(4);
        x.known(7);
        x.weight(2, 3);
        x.weight(5, 1);
        x.level(9, 3);
        x.level(4, 9);
        x.entry(2, 128);
        x.entry(5, 64);
        x.seed(77);
        x.day(0, 1, 3);
        x.image(1);
        x.serve(0, 400);
        x.cut(9, 9);
        x.feed(1, 2, 3, 4, 5);
        return x;
    }

    /** What can be asked of an object, with fewer than a hundred calls where it has few BALES. */
    static String state(ClothEnds x) {
        StringBuilder all = new StringBuilder();
        for (int what = 0; what <= 16; what++) {
            all.append(x.count(what)).append(' ');
        }
        for (int i = 0; i < Math.min(4, x.count(0)); i++) {
            for (int what = 0; what < 6; what++) {
                all.append(x.bale(i, what)).append(' ');
            }
            all.append(x.seam(i, 2, 3)).append(' ');
        }
        for (int i = 0; i < Math.min(3, x.count(6)); i++) {
            for (int what = 0; what < 4; what++) {
                all.append(x.ends(i, what)).append(' ');
            }
        }
        for (int what = 0; what < 3; what++) {
            all.append(x.all(what)).append(' ').append(x.which(3, 2, what)).append(' ');
        }
        for (int what = 0; what < 5; what++) {
            all.append(x.days(0, 2, 3, 9, what)).append(' ');
        }
        for (int missing : new int[] {0, 2, 3, 4, 9, 480}) {
            all.append(x.rod(missing, 0)).append(' ').append(x.rod(missing, 1)).append(' ');
        }
        all.append(x.sale(20, 3, 10, 0)).append(' ').append(x.sale(20, 3, 10, 1)).append(' ');
        all.append(x.made()).append(' ').append(x.madeOf(80, 54, 0)).append(' ').append(x.line(54, 30, 70));
        return all.toString();
    }
}
