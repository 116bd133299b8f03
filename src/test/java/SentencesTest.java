import java.io.IOException;
import java.nio.file.Files;
import java.nio.file.Path;
import java.util.List;
import java.util.Set;
import java.util.TreeSet;
import java.util.regex.Matcher;
import java.util.regex.Pattern;
import java.util.stream.Collectors;
import java.util.stream.Stream;

/** What the tests say that the document says stands there, and each promise has a test that names words of it. */
public final class SentencesTest {
    private static final Pattern SAYS = Pattern.compile("Check\\.says\\(\"((?:[^\"\\\\]|\\\\.)*)\"\\)");
    private static final int PROMISES = 41;

    public static void main(String[] args) throws IOException {
        String document = inOneLine(Files.readString(Path.of("../shared/DOC.md")));
        Set<String> said = allThatIsSaid();
        Check.holds("the tests name sentences", said.size() > 100);
        for (String words : said) {
            Check.holds("the document says: " + words, document.contains(inOneLine(words)));
        }
        for (int promise = 1; promise <= PROMISES; promise++) {
            String text = section(document, promise);
            Check.holds("a test names words of promise " + promise, said.stream().anyMatch(w -> text.contains(inOneLine(w))));
        }
        Check.end();
    }

    private static String inOneLine(String text) {
        return text.replaceAll("\\s+", " ");
    }

    private static String section(String document, int promise) {
        int from = document.indexOf("## Promise " + promise + ":");
        int end = document.indexOf("## ", from + 3);
        return from < 0 || end < 0 ? "" : document.substring(from, end);
    }

    private static Set<String> allThatIsSaid() throws IOException {
        Set<String> said = new TreeSet<>();
        List<Path> files;
        try (Stream<Path> all = Files.list(Path.of("src/test/java"))) {
            files = all.filter(f -> f.toString().endsWith("Test.java")).collect(Collectors.toList());
        }
        for (Path file : files) {
            Matcher found = SAYS.matcher(Files.readString(file));
            while (found.find()) {
                said.add(found.group(1).replace("\\\"", "\"").replace("\\\\", "\\"));
            }
        }
        return said;
    }
}
