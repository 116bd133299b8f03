import java.lang.reflect.Method;
import java.lang.reflect.Modifier;
import java.util.HashMap;
import java.util.Map;
import java.util.regex.Matcher;
import java.util.regex.Pattern;

/**
 * Calls of one object written as words, each with the answer that is due: "cut(0, true, 1) 1". The object is used for
 * 512 calls at most, as nothing is promised of it afterwards.
 */
final class Script {
    private static final int MOST_CALLS = 512;
    private static final Pattern CALL = Pattern.compile("(\\w+)\\(([^)]*)\\)");
    private static final Pattern CALL_AND_ANSWER = Pattern.compile("(\\w+\\([^)]*\\)) (-?\\w+)");

    private final Map<String, Method> face = new HashMap<>();
    private final WheelAndWire x;
    private int calls = 0;

    Script(WheelAndWire x) {
        this.x = x;
        for (Method method : WheelAndWire.class.getDeclaredMethods()) {
            if (Modifier.isPublic(method.getModifiers())) {
                face.put(method.getName(), method);
            }
        }
    }

    Script() {
        this(new WheelAndWire());
    }

    int calls() {
        return calls;
    }

    /** Each line has some calls with their answers, one behind the other. */
    void due(String... lines) {
        for (String line : lines) {
            Matcher found = CALL_AND_ANSWER.matcher(line);
            int end = 0;
            while (found.find()) {
                Check.holds("'" + line + "' is calls and answers alone", line.substring(end, found.start()).matches("[;\\s]*"));
                Check.due("call " + (calls + 1) + " of the run, " + found.group(1), call(found.group(1)), answer(found.group(2)));
                end = found.end();
            }
            Check.holds("'" + line + "' is calls and answers alone", end > 0 && line.substring(end).matches("[;\\s]*"));
        }
    }

    /** A number, or the name of one of the constants. */
    static long answer(String word) {
        switch (word) {
            case "UNKNOWN": return WheelAndWire.UNKNOWN;
            case "BAD": return WheelAndWire.BAD;
            case "LATE": return WheelAndWire.LATE;
            case "FULL": return WheelAndWire.FULL;
            case "NONE": return WheelAndWire.NONE;
            default: return Long.parseLong(word);
        }
    }

    long call(String call) {
        Matcher parts = CALL.matcher(call);
        if (!parts.matches() || !face.containsKey(parts.group(1))) {
            throw new IllegalArgumentException("no call: " + call);
        }
        calls++;
        Check.holds("no more than 512 calls of one object", calls <= MOST_CALLS);
        Method method = face.get(parts.group(1));
        String[] words = parts.group(2).isBlank() ? new String[0] : parts.group(2).trim().split("\\s*,\\s*");
        Class<?>[] kinds = method.getParameterTypes();
        if (words.length != kinds.length) {
            throw new IllegalArgumentException("not as many arguments: " + call);
        }
        Object[] arguments = new Object[words.length];
        for (int i = 0; i < words.length; i++) {
            arguments[i] = argument(words[i], kinds[i]);
        }
        try {
            return ((Number) method.invoke(x, arguments)).longValue();
        } catch (ReflectiveOperationException e) {
            throw new IllegalStateException(call + " threw", e);
        }
    }

    private static Object argument(String word, Class<?> kind) {
        if (kind == boolean.class) {
            if (!word.equals("true") && !word.equals("false")) {
                throw new IllegalArgumentException("neither true nor false: " + word);
            }
            return word.equals("true");
        }
        String digits = word.replaceAll("L$", "").replace("'P'", "80").replace("'/'", "47");
        long value = Long.decode(digits);
        return kind == long.class ? (Object) value : (Object) Math.toIntExact(value);
    }

    /** THE TEXT is this one: by as few calls as can be. */
    void text(String text) {
        call("wipe()");
        for (int from = 0; from < text.length(); from += 8) {
            String part = text.substring(from, Math.min(text.length(), from + 8));
            long v = 0;
            for (char sign : part.toCharArray()) {
                v = v << 8 | sign;
            }
            Check.due("write() up to " + (from + part.length()), call("write(" + part.length() + ", " + v + ")"),
                from + part.length());
        }
    }

    void form(String text) {
        text(text);
        Check.due("form() of " + text, call("form()"), text.replace("/", "").length());
    }
}
