import java.nio.charset.StandardCharsets;

/** What the tests share: comparing an answer with the one that is due, and making a form. */
final class Check {
    private static int wrong = 0;
    private static int asked = 0;
    private static String sentence = "";
    private static boolean worn = false;

    private Check() {
    }

    /** The document's words that the answers from here on are to show; SentencesTest looks them up there. */
    static void says(String words) {
        sentence = "\"" + words + "\" ";
    }

    static void due(String call, long got, long want) {
        asked++;
        if (got != want) {
            wrong++;
            System.out.println(sentence + call + " answered " + got + ", due is " + want);
        }
    }

    static void holds(String what, boolean holds) {
        asked++;
        if (!holds) {
            wrong++;
            System.out.println(sentence + "does not hold: " + what);
        }
    }

    static int wrongSoFar() {
        return wrong;
    }

    static void put(WheelAndWire x, String text) {
        x.wipe();
        for (byte b : text.getBytes(StandardCharsets.ISO_8859_1)) {
            x.write(1, b);
        }
    }

    /** From here on made() answers objects that have had many calls, and are to answer as new ones do. */
    static void wearFromHereOn() {
        worn = true;
    }

    static WheelAndWire made(String text) {
        WheelAndWire x = new WheelAndWire();
        if (worn) {
            Worn.wear(x);
        }
        put(x, text);
        due("form() of " + text, x.form(), text.replace("/", "").length());
        return x;
    }

    static void end() {
        System.out.println(wrong == 0 ? asked + " answers are as due" : wrong + " of " + asked + " answers are not as due");
        if (wrong != 0) {
            System.exit(1);
        }
    }
}
