import java.nio.charset.StandardCharsets;

/** What all tests here use: feeding of texts, and counting of answers that are not as due. */
final class Check {
    private static int wrong = 0;
    private static String sentence = "";

    private Check() {
    }

    /** The sentence of the document that is tested from here on; it is told with what goes wrong. */
    static void on(String words) {
        sentence = "[" + words + "] ";
    }

    static void due(String call, long got, long want) {
        if (got != want) {
            wrong++;
            System.out.println(sentence + call + " answered " + got + ", due is " + want);
        }
    }

    static void due(String call, String got, String want) {
        if (!got.equals(want)) {
            wrong++;
            System.out.println(sentence + call + " answered " + got + ", due is " + want);
        }
    }

    static void due(String call, boolean got, boolean want) {
        due(call, got ? 1 : 0, want ? 1 : 0);
    }

    /** The answer of a call that is refused, and its number. */
    static void refused(String call, BrushGlass x, long got, int number) {
        due(call, got, -1);
        due(call + ", then trouble()", x.trouble(), number);
    }

    static void refused(String call, BrushGlass x, boolean got, int number) {
        due(call, got, false);
        due(call + ", then trouble()", x.trouble(), number);
    }

    /** The answer of a call that may be refused and isn't. */
    static void fine(String call, BrushGlass x, long got, long want) {
        due(call, got, want);
        due(call + ", then trouble()", x.trouble(), 0);
    }

    static void fine(String call, BrushGlass x, boolean got) {
        due(call, got, true);
        due(call + ", then trouble()", x.trouble(), 0);
    }

    static void feed(BrushGlass x, String text) {
        byte[] bytes = text.getBytes(StandardCharsets.ISO_8859_1);
        for (int i = 0; i < bytes.length; i += 20) {
            x.feed(four(bytes, i), four(bytes, i + 4), four(bytes, i + 8), four(bytes, i + 12), four(bytes, i + 16));
        }
    }

    private static int four(byte[] bytes, int from) {
        int number = 0;
        for (int i = from; i < from + 4; i++) {
            number = number << 8 | (i < bytes.length ? bytes[i] & 255 : ' ');
        }
        return number;
    }

    /** A new object with the glass of a text. */
    static BrushGlass of(String text) {
        BrushGlass x = new BrushGlass();
        feed(x, text);
        if (x.glass(text.length()) < 0) {
            due("glass of " + text + ", fault " + x.fault() + " at " + x.where(), -1, 0);
        }
        return x;
    }

    static String join(String... lines) {
        return String.join(";", lines);
    }

    static String person(String name, String kind, String habit, String order, String rest) {
        return "person " + name + " " + kind + " buys " + habit + " likes " + order + " " + rest;
    }

    static void end() {
        if (wrong != 0) {
            System.out.println(wrong + " answers are not as due");
            System.exit(1);
        }
    }
}
