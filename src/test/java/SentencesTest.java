import java.io.IOException;
import java.lang.reflect.Method;
import java.nio.file.Files;
import java.nio.file.Path;
import java.util.ArrayList;
import java.util.List;
import java.util.regex.Matcher;
import java.util.regex.Pattern;
import java.util.stream.Stream;

/** Each sentence of the document that names a boundary case has a test, and each such test quotes the document. */
public final class SentencesTest {
    private static final int PROMISES = 35;
    /** Words by which a sentence names a boundary case. */
    private static final Pattern EDGE = Pattern.compile("-2|\\bNONE\\b|STATUS \\d|counted by|at most|at least|without|"
        + "not so many|below|more than|empty|too (many|deep|great)|one CLAUSE|an? (second|ninth|13th|17th|thirteenth)|"
        + "\\d to \\w|by 0|round|the end|at first|downwards|the least|the most");

    private static final Check check = new Check("SentencesTest");
    private static final List<Sentence> sentences = new ArrayList<>();
    private static String document;
    private static boolean[] quoted;

    public static void main(String[] args) throws IOException, ClassNotFoundException {
        document = Files.readString(Path.of("../shared/DOC.md")).replaceAll("\\s+", " ");
        quoted = new boolean[document.length()];
        readSentences();
        for (Sentence s : sentences) {
            boolean promise = quote(s.says(), "## Promise " + s.promise() + ":");
            boolean terms = quote(s.says(), "## Terms") | quote(s.says(), "## The public face")
                | quote(s.says(), "## What it is");
            check.holds("promise " + s.promise() + " or the terms say '" + s.says() + "'", promise || terms);
        }
        for (int promise = 1; promise <= PROMISES; promise++) {
            int wanted = promise;
            check.holds("promise " + promise + " has a test of a sentence",
                sentences.stream().anyMatch(s -> s.promise() == wanted));
            untested("## Promise " + promise + ":");
        }
        untested("## Terms");
        check.done();
    }

    private static void readSentences() throws IOException, ClassNotFoundException {
        List<String> names;
        try (Stream<Path> files = Files.list(Path.of("src/test/java"))) {
            names = files.map(f -> f.getFileName().toString()).filter(f -> f.endsWith("EdgeTest.java")).sorted().toList();
        }
        for (String name : names) {
            for (Method m : Class.forName(name.replace(".java", "")).getDeclaredMethods()) {
                if (m.isAnnotationPresent(Sentence.class)) {
                    sentences.add(m.getAnnotation(Sentence.class));
                }
            }
        }
    }

    private static int begin(String head) {
        int at = document.indexOf(head);
        check.holds("the document has '" + head + "'", at >= 0);
        return Math.max(at, 0);
    }

    private static int end(int begin) {
        int next = document.indexOf(" ## ", begin);
        return next < 0 ? document.length() : next;
    }

    /** Marks the words where they stand in a section; false if they don't. */
    private static boolean quote(String words, String head) {
        int begin = begin(head);
        int end = end(begin);
        boolean found = false;
        for (int at = document.indexOf(words, begin); at >= 0 && at + words.length() <= end;
            at = document.indexOf(words, at + 1)) {
            found = true;
            for (int i = at; i < at + words.length(); i++) {
                quoted[i] = true;
            }
        }
        return found;
    }

    /** No boundary case is named in what of a section no test quotes. */
    private static void untested(String head) {
        int begin = begin(head);
        StringBuilder rest = new StringBuilder();
        for (int i = begin + head.length(); i < end(begin); i++) {
            rest.append(quoted[i] ? '|' : document.charAt(i));
        }
        String bare = rest.toString().replaceAll("\\|+", "|").replaceAll("`[^`]*`", "");
        Matcher edge = EDGE.matcher(bare);
        while (edge.find()) {
            String near = bare.substring(Math.max(0, edge.start() - 60), Math.min(bare.length(), edge.end() + 60));
            check.holds(head + " names '" + edge.group() + "' untested, in '" + near + "'", false);
        }
    }
}
