import java.io.IOException;
import java.lang.reflect.Array;
import java.lang.reflect.Field;
import java.lang.reflect.Method;
import java.lang.reflect.Modifier;
import java.nio.file.Files;
import java.nio.file.Path;
import java.util.ArrayList;
import java.util.Arrays;
import java.util.IdentityHashMap;
import java.util.List;
import java.util.Map;
import java.util.Set;
import java.util.TreeSet;
import java.util.regex.Pattern;

/** What of LANGUAGE.md can be seen from outside: the face, the words of the source, what an object takes up. */
public final class LanguageTest {
    private static final Check check = new Check("LanguageTest");
    private static final String FACE = """
        int all(int)
        int back(int)
        int bale(int,int)
        int basket(int)
        int count(int)
        int cut(int,int)
        int day(int,int,int)
        int days(int,int,int,int,int)
        int drops(int,int)
        int end(int)
        int ends(int,int)
        int entry(int,int)
        int feed(int,int,int,int,int)
        int image(int)
        int known(int)
        int level(int,int)
        int line(int,int,int)
        int lots(int,int)
        int made()
        int madeOf(int,int,int)
        int meet(int,int,int,int)
        int out(int)
        int rod(int,int)
        int roll(int,int,int,int)
        int rule()
        int sale(int,int,int,int)
        int seam(int,int,int)
        int seed(int)
        int serve(int,int)
        int shop()
        int status(int)
        int tear(int,int)
        int weight(int,int)
        long which(int,int,int)
        """;

    public static void main(String[] args) throws Exception {
        face();
        classes();
        source();
        room();
        check.done();
    }

    private static void face() {
        Set<String> methods = new TreeSet<>();
        for (Method m : ClothEnds.class.getDeclaredMethods()) {
            if (Modifier.isPrivate(m.getModifiers())) {
                continue;
            }
            check.holds(m.getName() + " is public", Modifier.isPublic(m.getModifiers()));
            String types = String.join(",", Arrays.stream(m.getParameterTypes()).map(Class::getName).toList());
            methods.add(m.getReturnType().getName() + " " + m.getName() + "(" + types + ")");
        }
        check.holds("the methods of the face: " + methods, methods.equals(new TreeSet<>(FACE.lines().toList())));
        List<String> fields = new ArrayList<>();
        for (Field f : ClothEnds.class.getDeclaredFields()) {
            if (!Modifier.isPrivate(f.getModifiers())) {
                fields.add(Modifier.toString(f.getModifiers()) + " " + f.getType() + " " + f.getName());
            }
        }
        check.holds("the constants", fields.equals(List.of("public static final int NONE")));
        check.due("constructors", ClothEnds.class.getDeclaredConstructors().length, 1);
        check.due("public constructors", ClothEnds.class.getConstructors().length, 1);
        check.holds("public and final", (ClothEnds.class.getModifiers() & 17) == 17);
    }

    private static void classes() {
        List<Class<?>> all = new ArrayList<>(List.of(ClothEnds.class.getDeclaredClasses()));
        check.holds("few classes", all.size() <= 12);
        for (Class<?> c : all) {
            check.holds(c + " is static", Modifier.isStatic(c.getModifiers()));
            check.due(c + " has classes inside", c.getDeclaredClasses().length, 0);
        }
        all.add(ClothEnds.class);
        Set<String> names = new TreeSet<>();
        for (Method m : ClothEnds.class.getMethods()) {
            names.add(m.getName());
        }
        for (Class<?> c : all) {
            int fields = 0;
            for (Field f : c.getDeclaredFields()) {
                if (Modifier.isStatic(f.getModifiers())) {
                    check.holds(f + " is final", Modifier.isFinal(f.getModifiers()));
                } else {
                    fields++;
                }
            }
            check.holds(c + " has few fields", fields <= 20);
            for (Method m : c.getDeclaredMethods()) {
                boolean own = c == ClothEnds.class && Modifier.isPublic(m.getModifiers());
                check.holds(m + " has no name of the face", own || !names.contains(m.getName()));
                check.holds(m + " has few parameters", m.getParameterCount() <= 7);
            }
        }
    }

    private static void source() throws IOException {
        List<String> lines = Files.readAllLines(Path.of("src/main/java/ClothEnds.java"));
        Pattern barred = Pattern.compile("\\b(throw|throws|try|catch|synchronized|assert|import|package)\\b|->|::");
        int head = 0;
        for (int i = 0; i < lines.size(); i++) {
            String code = lines.get(i).replaceAll("\"[^\"]*\"", "").replaceAll("//.*|^\\s*/?\\*.*", "");
            check.holds("line " + (i + 1) + " keeps to the language: " + code, !barred.matcher(code).find());
            check.holds("line " + (i + 1) + " has no sign above 127", code.chars().allMatch(sign -> sign < 127));
            if (code.contains("new ")) {
                // nothing of an object is handed out while it is made
                boolean field = code.matches("\\s+(private )?final [\\w\\[\\]]+ \\w+ = new (\\w+\\(\\)|\\w+\\[.+\\]);");
                boolean constructor = code.matches("            (images|rules)\\[i\\] = new \\w+\\(\\);");
                check.holds("line " + (i + 1) + " makes what it needs once: " + code, field || constructor);
            }
            if (code.matches("\\s+[\\w\\[\\] ]+\\(.*\\) \\{") && !code.matches("\\s*(if|for|while|switch|}? ?else).*")) {
                head = i;
            }
            check.holds("line " + (i + 1) + " is of a short method", i - head <= 60 || !code.contains(";"));
        }
    }

    /** All objects and arrays that a new object holds, and their fields and elements: few, and none come with calls. */
    private static void room() throws IllegalAccessException {
        ClothEnds x = new ClothEnds();
        long[] made = count(x);
        check.holds("objects: " + made[0], made[0] <= 300);
        check.holds("elements: " + made[1], made[1] <= 15000);
        Check.shop(x, "bale 40 1 1 1;bale 30 1 1 1;form 1 1 1;pair 1 1;board 9");
        Check.rule(x, "from left if order<9");
        for (int i = 0; i < 9; i++) {
            x.known(i + 1);
        }
        x.weight(1, 1);
        x.level(1, 1);
        x.days(0, 30, 40, 80, 0);
        x.which(1, 4, 0);
        x.all(0);
        x.sale(480, 60, 50, 0);
        x.image(0);
        x.back(0);
        x.made();
        long[] now = count(x);
        check.due("objects behind calls", now[0], made[0]);
        check.due("elements behind calls", now[1], made[1]);
    }

    private static long[] count(Object root) throws IllegalAccessException {
        long[] found = new long[2];
        Map<Object, Boolean> seen = new IdentityHashMap<>();
        List<Object> open = new ArrayList<>(List.of(root));
        while (!open.isEmpty()) {
            Object one = open.remove(open.size() - 1);
            if (one == null || seen.put(one, true) != null) {
                continue;
            }
            found[0]++;
            if (one.getClass().isArray()) {
                found[1] += Array.getLength(one);
                if (one instanceof Object[] all) {
                    open.addAll(Arrays.asList(all));
                }
                continue;
            }
            for (Field f : one.getClass().getDeclaredFields()) {
                if (Modifier.isStatic(f.getModifiers())) {
                    continue;
                }
                found[1]++;
                if (!f.getType().isPrimitive()) {
                    f.setAccessible(true);
                    open.add(f.get(one));
                }
            }
        }
        return found;
    }
}
