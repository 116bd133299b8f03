import java.io.IOException;
import java.nio.file.Files;
import java.nio.file.Path;
import java.util.List;
import java.util.Set;
import java.util.TreeSet;
import java.util.regex.Matcher;
import java.util.regex.Pattern;
import java.util.stream.Collectors;
import java.util.stream.Stream;

/**
 * What the tests say that the document says stands there; each promise has a test that names words of it; and no words
 * of the terms and the promises are left that no test names.
 */
public final class SentencesTest {
    private static final String WORDS = "\"(?:[^\"\\\\]|\\\\.)*\"";
    private static final Pattern SAYS = Pattern.compile("Check\\.says\\(\\s*(" + WORDS + "(?:\\s*\\+\\s*" + WORDS + ")*)\\s*\\)");
    private static final int PROMISES = 41;
    /** Headings, the calls' own lines and marks: they say nothing of what a call answers or changes. */
    private static final String[] NO_SENTENCES = {"## Promise \\d+: [\\w ]+? (?=`)", "`(?:(?:int|long) )?\\w+\\([^)]*\\)`:", "## Terms",
        "```(?:text)?", "======== \\d", "Ahead of the calls .*? the interface says: ---- [\\w, ]+\\."};

    public static void main(String[] args) throws IOException {
        String document = inOneLine(Files.readString(Path.of("../shared/DOC.md")));
        Set<String> said = allThatIsSaid();
        Check.holds("the tests name sentences", said.size() > 100);
        for (String words : said) {
            Check.holds("the document says: " + words, document.contains(words));
        }
        for (int promise = 1; promise <= PROMISES; promise++) {
            String text = section(document, "## Promise " + promise + ":");
            Check.holds("promise " + promise + " is there", !text.isEmpty());
            Check.holds("a test names words of promise " + promise, said.stream().anyMatch(text::contains));
        }
        nothingIsLeftOut(document, said);
        Check.end();
    }

    private static void nothingIsLeftOut(String document, Set<String> said) {
        int from = document.indexOf("## Terms");
        int end = document.indexOf("## Not promised");
        Check.holds("there are terms and promises", from >= 0 && end > from);
        StringBuilder rest = new StringBuilder(document.substring(from, end));
        for (String kind : NO_SENTENCES) {
            cross(rest, Pattern.compile(kind));
        }
        StringBuilder unsaid = new StringBuilder(rest);
        for (String words : said) {
            for (int at = rest.indexOf(words); at >= 0; at = rest.indexOf(words, at + 1)) {
                blank(unsaid, at, at + words.length());
            }
        }
        Matcher left = Pattern.compile("\\S(?:\\S| (?! ))*").matcher(unsaid);
        int stretches = 0;
        while (left.find()) {
            stretches++;
            Check.holds("a test names these words: " + left.group(), !left.group().matches(".*\\w.*"));
        }
        Check.holds("the words that tests name are most of it", stretches < 200);
    }

    private static void cross(StringBuilder text, Pattern kind) {
        Matcher found = kind.matcher(text.toString());
        while (found.find()) {
            blank(text, found.start(), found.end());
        }
    }

    private static void blank(StringBuilder text, int from, int end) {
        for (int i = from; i < end; i++) {
            text.setCharAt(i, ' ');
        }
    }

    private static String inOneLine(String text) {
        return text.replaceAll("\\s+", " ");
    }

    private static String section(String document, String heading) {
        int from = document.indexOf(heading);
        int end = document.indexOf("## ", from + 3);
        return from < 0 || end < 0 ? "" : document.substring(from, end);
    }

    private static Set<String> allThatIsSaid() throws IOException {
        Set<String> said = new TreeSet<>();
        List<Path> files;
        try (Stream<Path> all = Files.list(Path.of("src/test/java"))) {
            files = all.filter(f -> f.toString().endsWith("Test.java")).collect(Collectors.toList());
        }
        for (Path file : files) {
            Matcher found = SAYS.matcher(Files.readString(file));
            while (found.find()) {
                said.add(inOneLine(joined(found.group(1))));
            }
        }
        return said;
    }

    private static String joined(String literals) {
        StringBuilder all = new StringBuilder();
        Matcher part = Pattern.compile(WORDS).matcher(literals);
        while (part.find()) {
            String words = part.group().substring(1, part.group().length() - 1);
            all.append(words.replace("\\\"", "\"").replace("\\\\", "\\"));
        }
        return all.toString();
    }
}
