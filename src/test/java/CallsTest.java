import java.io.PrintWriter;
import java.io.StringWriter;
import java.nio.file.Files;
import java.nio.file.Path;
import java.util.ArrayList;
import java.util.List;
import java.util.Map;
import java.util.Set;
import java.util.TreeMap;
import java.util.TreeSet;
import java.util.regex.Matcher;
import java.util.regex.Pattern;
import java.util.spi.ToolProvider;
import java.util.stream.Stream;

/** What of LANGUAGE.md can be seen in the compiled class (rules 4, 6, 8, 11, 12): its calls, and what it makes. */
public final class CallsTest {
    private static final int MOST_DEEP = 8;
    private static final Set<String> LIBRARY = Set.of(
        "java/lang/Object.<init>", "java/lang/String.length", "java/lang/String.charAt",
        "java/lang/Integer.bitCount", "java/lang/Math.min", "java/lang/Math.max");
    private static final Pattern HEAD = Pattern.compile("  (\\S.*? )?([\\w$<>]+)\\(.*\\);");
    private static final Pattern CALL = Pattern.compile("invoke(\\w+).*// \\w+ \"?([\\w/$.<>\"]+):.*");

    private static final Check check = new Check("CallsTest");
    private static final Map<String, Set<String>> calls = new TreeMap<>();
    private static final Map<String, String> heads = new TreeMap<>();

    public static void main(String[] args) throws Exception {
        if (ToolProvider.findFirst("javap").isEmpty()) {
            System.out.println("CallsTest: this Java has no javap, nothing is looked at");
            return;
        }
        Path here = Path.of(ClothEnds.class.getProtectionDomain().getCodeSource().getLocation().toURI());
        List<String> files;
        try (Stream<Path> all = Files.list(here)) {
            files = all.map(Path::toString).filter(f -> f.matches(".*[/\\\\]ClothEnds(\\$\\w+)?\\.class")).sorted().toList();
        }
        for (String file : files) {
            read(file);
        }
        check.holds("methods are seen", calls.containsKey("ClothEnds.which") && calls.size() > 100);
        for (String method : calls.keySet()) {
            List<String> chain = longest(method, new ArrayList<>());
            check.holds("eight deep at most: " + chain, chain.size() <= MOST_DEEP);
            if (calls.get(method).contains(method)) {
                check.holds(method + " calls itself, private and static", heads.get(method).contains("private static "));
            }
        }
        check.done();
    }

    private static void read(String file) {
        String name = Path.of(file).getFileName().toString().replace(".class", "");
        String method = "";
        for (String line : javap(file).split("\\R")) {
            Matcher head = HEAD.matcher(line.replace("static {}", "<clinit>()"));
            if (head.matches()) {
                method = name + "." + (head.group(2).equals(name) ? "<init>" : head.group(2));
                calls.putIfAbsent(method, new TreeSet<>());
                heads.put(method, line);
                continue;
            }
            if (!line.matches("\\s+\\d+: .*")) {
                check.holds(method + " catches nothing", !line.contains("Exception table"));
                continue;
            }
            String step = line.trim().split("\\s+")[1];
            check.holds(method + " throws nothing", !step.equals("athrow"));
            check.holds(method + " casts nothing", !step.equals("checkcast"));
            boolean makes = step.equals("new") || step.endsWith("newarray");
            check.holds(method + " makes nothing", !makes || method.endsWith("init>"));
            Matcher call = CALL.matcher(line);
            if (call.find()) {
                String called = call.group(2).replace("\"", "");
                keep(method, called.contains(".") ? called : name + "." + called);
            }
        }
    }

    private static void keep(String method, String called) {
        if (called.startsWith("java/")) {
            check.holds(method + " calls " + called + ", which is in the library", LIBRARY.contains(called));
        } else {
            calls.get(method).add(called);
        }
    }

    private static String javap(String file) {
        StringWriter out = new StringWriter();
        PrintWriter to = new PrintWriter(out);
        ToolProvider.findFirst("javap").orElseThrow().run(to, to, "-c", "-p", file);
        return out.toString();
    }

    /** The longest chain of calls from a method; a call of itself counts once. */
    private static List<String> longest(String method, List<String> from) {
        List<String> chain = new ArrayList<>(from);
        chain.add(method);
        List<String> best = chain;
        for (String called : calls.getOrDefault(method, Set.of())) {
            if (called.equals(method)) {
                continue;
            }
            check.holds(chain + " go round by " + called, !chain.contains(called));
            if (!chain.contains(called)) {
                List<String> further = longest(called, chain);
                best = further.size() > best.size() ? further : best;
            }
        }
        return best;
    }
}
