import java.io.IOException;
import java.lang.reflect.Method;
import java.lang.reflect.Modifier;
import java.nio.file.Files;
import java.nio.file.Path;
import java.util.ArrayList;
import java.util.Comparator;
import java.util.List;
import java.util.Set;
import java.util.TreeSet;
import java.util.regex.Matcher;
import java.util.regex.Pattern;
import java.util.stream.Collectors;
import java.util.stream.Stream;
import javax.tools.JavaCompiler;
import javax.tools.ToolProvider;

/** What README.md says is so: its examples compile, each call answers what stands behind it, and its tests are there. */
public final class ReadmeTest {
    private static final Pattern BLOCK = Pattern.compile("```java\n(.*?)```", Pattern.DOTALL);
    private static final Pattern CALL = Pattern.compile("x\\.(\\w+)(\\([^)]*\\)); *// (-?\\w+)\\b.*");
    private static final String MADE = "WheelAndWire x = new WheelAndWire();";

    public static void main(String[] args) throws IOException {
        String page = Files.readString(Path.of("README.md"));
        List<String> blocks = new ArrayList<>();
        Matcher found = BLOCK.matcher(page);
        while (found.find()) {
            blocks.add(found.group(1));
        }
        Check.holds("there are examples", blocks.size() >= 5);
        Set<String> shown = new TreeSet<>();
        for (String block : blocks) {
            answersAsTold(block, shown);
        }
        everyCallIsShown(shown);
        examplesCompile(blocks);
        testsAreThere(page);
        Check.holds(".ci/run can be run", page.contains("\n.ci/run\n") && Files.isExecutable(Path.of(".ci/run")));
        Check.end();
    }

    private static void answersAsTold(String block, Set<String> shown) {
        String[] lines = block.split("\n");
        Check.holds("an example starts with a new object", lines[0].equals(MADE));
        Script x = new Script();
        for (int i = 1; i < lines.length; i++) {
            Matcher call = CALL.matcher(lines[i]);
            boolean isCall = call.matches();
            Check.holds("a call with its answer: " + lines[i], isCall);
            if (isCall) {
                shown.add(call.group(1));
                Check.due("README: " + lines[i], x.call(call.group(1) + call.group(2)), Script.answer(call.group(3)));
            }
        }
    }

    private static void everyCallIsShown(Set<String> shown) {
        for (Method method : WheelAndWire.class.getDeclaredMethods()) {
            if (Modifier.isPublic(method.getModifiers())) {
                Check.holds("an example shows " + method.getName(), shown.contains(method.getName()));
            }
        }
    }

    private static void examplesCompile(List<String> blocks) throws IOException {
        StringBuilder source = new StringBuilder("class Yours {\n");
        for (int i = 0; i < blocks.size(); i++) {
            source.append("static void example").append(i).append("() {\n").append(blocks.get(i)).append("}\n");
        }
        source.append("}\n");
        Path directory = Files.createTempDirectory("readme");
        Path yours = directory.resolve("Yours.java");
        Files.writeString(yours, source.toString());
        JavaCompiler compiler = ToolProvider.getSystemJavaCompiler();
        Check.holds("there is a compiler", compiler != null);
        int failed = compiler == null ? 1 : compiler.run(null, null, null, "-d", directory.resolve("classes").toString(),
            "src/main/java/WheelAndWire.java", yours.toString());
        Check.due("javac of the examples", failed, 0);
        try (Stream<Path> all = Files.walk(directory)) {
            for (Path path : all.sorted(Comparator.reverseOrder()).collect(Collectors.toList())) {
                Files.delete(path);
            }
        }
    }

    private static void testsAreThere(String page) throws IOException {
        Set<String> told = new TreeSet<>();
        Matcher rows = Pattern.compile("(?m)^\\| ((?:\\w+Test(?:, )?)+) \\|").matcher(page);
        while (rows.find()) {
            told.addAll(List.of(rows.group(1).split(", ")));
        }
        Set<String> there;
        try (Stream<Path> all = Files.list(Path.of("src/test/java"))) {
            there = all.map(f -> f.getFileName().toString()).filter(f -> f.endsWith("Test.java"))
                .map(f -> f.substring(0, f.length() - ".java".length())).collect(Collectors.toCollection(TreeSet::new));
        }
        Check.holds("the tests that it tells, " + told + ", are those that are there, " + there, told.equals(there));
    }
}
