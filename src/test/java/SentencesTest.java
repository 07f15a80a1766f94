import java.io.IOException;
import java.nio.file.Files;
import java.nio.file.Path;
import java.util.List;
import java.util.regex.Matcher;
import java.util.regex.Pattern;
import java.util.stream.Collectors;
import java.util.stream.Stream;

/** Whether the edge tests quote each word of the document's terms and promises, so that no sentence is left without a test. */
public final class SentencesTest {
    private static final Due due = new Due("SentencesTest");
    private static final Pattern QUOTE = Pattern.compile("edges\\.says\\(((?:\\s*\\+?\\s*\"(?:[^\"\\\\]|\\\\.)*\")+)\\)");
    private static final Pattern LITERAL = Pattern.compile("\"((?:[^\"\\\\]|\\\\.)*)\"");
    // Headings, signatures and what the interface says ahead of the calls; LanguageTest asks the signatures.
    private static final Pattern NO_SENTENCE = Pattern.compile("=+ \\d|```(text)?|## Promise \\d+: (A new object|\\w+)"
        + "|`\\w+ \\w+\\([^`]*\\)`:|Ahead of the calls .*? the interface says: ---- [a-z, ]+\\.");

    public static void main(String[] args) throws IOException {
        String doc = Edges.plainDoc();
        int from = doc.indexOf("## Terms") + 8;
        int till = doc.indexOf("## Not promised");
        boolean[] told = new boolean[doc.length()];
        mark(told, doc, NO_SENTENCE);
        for (String quote : quotes()) {
            mark(told, doc, Pattern.compile(Pattern.quote(quote)));
        }
        StringBuilder open = new StringBuilder();
        for (int i = from; i < till; i++) {
            boolean isWord = Character.isLetterOrDigit(doc.charAt(i));
            open.append(isWord && !told[i] ? doc.charAt(i) : ' ');
        }
        due.is("words that no test quotes", open.toString().trim().replaceAll("\\s+", " "), "");
        due.end();
    }

    private static void mark(boolean[] told, String doc, Pattern what) {
        Matcher m = what.matcher(doc);
        while (m.find()) {
            for (int i = m.start(); i < m.end(); i++) {
                told[i] = true;
            }
        }
    }

    private static List<String> quotes() throws IOException {
        try (Stream<Path> files = Files.list(Path.of("src/test/java"))) {
            List<Path> all = files.filter(f -> f.toString().endsWith("EdgesTest.java")).sorted().collect(Collectors.toList());
            StringBuilder code = new StringBuilder();
            for (Path f : all) {
                code.append(Files.readString(f));
            }
            return QUOTE.matcher(code).results().map(r -> literalsOf(r.group(1))).collect(Collectors.toList());
        }
    }

    private static String literalsOf(String expression) {
        return LITERAL.matcher(expression).results().map(r -> r.group(1).replace("\\\"", "\"")).collect(Collectors.joining());
    }
}
