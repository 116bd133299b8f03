import java.lang.reflect.Constructor;
import java.lang.reflect.Field;
import java.lang.reflect.Method;
import java.lang.reflect.Modifier;
import java.nio.file.Files;
import java.nio.file.Path;
import java.util.ArrayList;
import java.util.Arrays;
import java.util.List;
import java.util.TreeSet;
import java.util.regex.Matcher;
import java.util.regex.Pattern;

/** What can be read off the class and its source of the rules in ../shared/LANGUAGE.md. */
public final class LanguageTest {
    private static final String[] NOT_THERE = {"import", "throw", "throws", "try", "catch", "synchronized", "assert",
        "package", "->", "::", "@Override", "Exact", "hashCode", "toString", "equals", "System\\.(?!arraycopy)", "Random",
        "Thread", "static\\s*\\{", "double", "float", "protected"};
    private static final String[] FACE = {"int write(int, long)", "int wipe()", "int fault()", "int form()",
        "int place(int, int)", "int cut(int, boolean, int)", "int about(int, int)", "int weighs(int)", "int pass(int)",
        "int wrap(int, int)", "int trim(int)", "int sell(int, boolean)", "int serves(int, int, int, int)",
        "int stands(int, int, int)", "int next(int, int, int)", "int serve(int, int, int)",
        "int two(int, int, int, int, int)", "int twoFirst(int, int, int, int, int)", "int order(int, int, int)",
        "int unorder()", "int whole()", "int first()", "int fair(int)", "int left(int)", "int read()", "int unleft()",
        "int ripens(int, int)", "long ripe(int, int, boolean)", "int ripest(int)", "int book(int)", "int over(int)",
        "int bestOver()", "int taste(int, boolean)", "long brings(int, boolean)", "int bestTaste()", "int prices(int, int)",
        "int worth()", "int keep(int)", "int again(int)", "int count(int)"};

    public static void main(String[] args) throws Exception {
        words();
        theFace();
        classesInside();
        Check.end();
    }

    private static void words() throws Exception {
        String source = Files.readString(Path.of("src/main/java/WheelAndWire.java"));
        String code = source.replaceAll("(?s)/\\*.*?\\*/", "").replaceAll("//[^\n]*", "");
        for (String word : NOT_THERE) {
            String pattern = Character.isLetter(word.charAt(0)) ? "\\b" + word : word;
            Matcher found = Pattern.compile(pattern + (word.matches("[a-zA-Z]+") ? "\\b" : "")).matcher(code);
            Check.holds("no '" + word + "' in the source", !found.find());
        }
        for (int i = 0; i < source.length(); i++) {
            Check.holds("plain signs alone", source.charAt(i) < 128);
        }
    }

    private static String told(Method m) {
        List<String> kinds = new ArrayList<>();
        for (Class<?> kind : m.getParameterTypes()) {
            kinds.add(kind.getSimpleName());
        }
        return m.getReturnType().getSimpleName() + " " + m.getName() + "(" + String.join(", ", kinds) + ")";
    }

    private static void theFace() {
        TreeSet<String> open = new TreeSet<>();
        for (Method m : WheelAndWire.class.getDeclaredMethods()) {
            if (!Modifier.isPrivate(m.getModifiers())) {
                open.add(told(m));
                Check.holds(m + " is public and no more", m.getModifiers() == Modifier.PUBLIC);
            } else {
                Check.holds(m + " has a name of its own", Arrays.stream(FACE).noneMatch(f -> f.contains(" " + m.getName() + "(")));
            }
        }
        Check.holds("the methods are the document's: " + open, open.equals(new TreeSet<>(Arrays.asList(FACE))));
        List<String> constants = new ArrayList<>();
        for (Field f : WheelAndWire.class.getDeclaredFields()) {
            if (!Modifier.isPrivate(f.getModifiers())) {
                constants.add(f.getName());
            } else if (Modifier.isStatic(f.getModifiers())) {
                Check.holds(f + " is final", Modifier.isFinal(f.getModifiers()));
            }
        }
        Check.holds("the constants are the document's", constants.equals(List.of("UNKNOWN", "BAD", "LATE", "FULL", "NONE")));
        Constructor<?>[] constructors = WheelAndWire.class.getDeclaredConstructors();
        Check.holds("one public constructor", constructors.length == 1 && constructors[0].getModifiers() == Modifier.PUBLIC);
        Check.holds("the class is public and final", WheelAndWire.class.getModifiers() == (Modifier.PUBLIC | Modifier.FINAL));
    }

    private static void classesInside() {
        Class<?>[] inside = WheelAndWire.class.getDeclaredClasses();
        Check.holds("some twelve classes at most", inside.length + 1 <= 12);
        for (Class<?> one : inside) {
            int how = one.getModifiers();
            Check.holds(one + " is private and static", Modifier.isStatic(how) && Modifier.isPrivate(how));
            int fields = 0;
            for (Field f : one.getDeclaredFields()) {
                fields += Modifier.isStatic(f.getModifiers()) ? 0 : 1;
                Check.holds(f + " is no static state", !Modifier.isStatic(f.getModifiers()) || Modifier.isFinal(f.getModifiers()));
            }
            Check.holds(one + " has some twenty fields at most", fields <= 20);
            for (Method m : one.getDeclaredMethods()) {
                Check.holds(m + " takes seven at most", m.getParameterCount() <= 7);
                Check.holds(m + " has a name of its own", Arrays.stream(FACE).noneMatch(f -> f.contains(" " + m.getName() + "(")));
            }
        }
    }
}
