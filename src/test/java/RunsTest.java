import java.lang.reflect.InvocationTargetException;
import java.lang.reflect.Method;
import java.util.ArrayList;
import java.util.HashMap;
import java.util.List;
import java.util.Map;
import java.util.NoSuchElementException;
import java.util.Random;

/** Runs of any calls by chance (always the same), up to 512 of one object: each is answered as the plain face answers. */
public final class RunsTest {
    private static final int RUNS = 400;
    private static final int MOST_CALLS = 512;
    private static final int MOST_TOLD = 10;
    /** Each call with a letter for each argument: see number(). */
    private static final String[] CALLS = {
        "fault", "where", "person p5", "likes p5", "stay p2t", "here d", "most", "brushes", "brush b4", "at dl", "colour dl",
        "whose dl", "place dp", "many d", "full", "uses dp", "wet dl", "shared d", "sharedAll", "suffers p", "sins p",
        "alike d", "alikeDays", "notches", "byHabit h", "bestHabit", "byKind k", "bestKind", "colours", "colourOf p",
        "judge", "judgeAt 5", "explains", "explain 3h", "isTrue 5", "wrongOnes", "pairings d", "could dp", "surely dl",
        "ask d", "drift l5t", "led h", "size w", "glass n"};
    private static final String[] ACTS = {
        "move dll", "move dll", "shake", "shake", "kind pk", "habit ph", "keep pe", "seed s", "undo", "undo", "mark", "back h",
        "size 9"};

    private static final Random chance = new Random(11);
    private static final SomeGlass some = new SomeGlass(chance);
    private static final Map<String, Method> methods = new HashMap<>();

    private BrushGlass x = new BrushGlass();
    private PlainFace face = new PlainFace();
    private final List<String> told = new ArrayList<>();
    private int calls = 0;

    public static void main(String[] args) throws IllegalAccessException {
        for (Method method : BrushGlass.class.getDeclaredMethods()) {
            methods.put(method.getName(), method);
        }
        Map<String, Integer> met = new HashMap<>();
        for (int run = 0; run < RUNS; run++) {
            new RunsTest().run(run, met);
        }
        for (String call : methods.keySet()) {
            boolean isFace = java.lang.reflect.Modifier.isPublic(methods.get(call).getModifiers());
            Check.due(call + " was called", isFace && !met.containsKey(call), false);
        }
        Check.end();
    }

    private void run(int number, Map<String, Integer> met) throws IllegalAccessException {
        int acts = chance.nextInt(3);
        if (chance.nextInt(8) != 0) {
            tell(met);
        }
        while (calls < MOST_CALLS - 1) {
            if (chance.nextInt(120) == 0) {
                tell(met);
            }
            String[] list = chance.nextInt(4) < acts ? ACTS : CALLS;
            String[] call = list[chance.nextInt(list.length)].split(" ");
            int[] values = new int[call.length == 1 ? 0 : call[1].length()];
            for (int i = 0; i < values.length; i++) {
                values[i] = number(call[1].charAt(i));
            }
            if (!compare(number, met, call[0], values)) {
                return;
            }
        }
    }

    /** Feeds a text, at times a spoiled one, and mostly calls glass() with its length. */
    private void tell(Map<String, Integer> met) throws IllegalAccessException {
        StringBuilder text = new StringBuilder(some.make(5, 6, 10).text());
        if (chance.nextInt(6) == 0) {
            text.setCharAt(chance.nextInt(text.length()), "0;,a z9p".charAt(chance.nextInt(8)));
        }
        if (calls + text.length() / 20 + 5 > MOST_CALLS || face.bytes() + text.length() > 1000) {
            return;
        }
        int from = face.bytes();
        for (int i = 0; i < text.length(); i += 20) {
            int[] values = new int[5];
            for (int j = 0; j < 20; j++) {
                values[j / 4] = values[j / 4] << 8 | (i + j < text.length() ? text.charAt(i + j) : ' ');
            }
            compare(-1, met, "feed", values);
        }
        if (chance.nextInt(8) != 0) {
            compare(-1, met, "glass", from + text.length());
            compare(-1, met, "where");
            compare(-1, met, "fault");
        }
    }

    /** A number that mostly is one that there is: of a day, a place, a person, and so on. */
    private int number(char letter) {
        int most = most(letter);
        int least = letter == 'e' ? 3 : 0;
        switch (chance.nextInt(24)) {
            case 0:
                return least - 1;
            case 1:
                return most + 1;
            case 2:
                return chance.nextBoolean() ? Integer.MAX_VALUE : Integer.MIN_VALUE;
            default:
                return least + chance.nextInt(Math.max(1, most - least + 1));
        }
    }

    private int most(char letter) {
        switch (letter) {
            case 'd':
                return face.model().days - 1;
            case 'l':
                return face.model().places - 1;
            case 'p':
                return face.model().people.size() - 1;
            case 'b':
                return face.brushes() - 1;
            case 't':
                return 1;
            case 'h':
                return 2;
            case 'k':
                return 3;
            case 'e':
                return 30;
            case 'w':
                return 11;
            case 's':
                return 65536;
            case 'n':
                return chance.nextInt(20) == 0 ? face.bytes() : 3000;
            default:
                return letter - '0';
        }
    }

    /** The answer and the trouble behind it; false if one isn't as due. */
    private boolean compare(int run, Map<String, Integer> met, String call, int... values) throws IllegalAccessException {
        if (call.equals("drift")) {
            values[2] &= 1;
        }
        StringBuilder words = new StringBuilder(call);
        for (int value : values) {
            words.append(' ').append(value);
        }
        told.add(words.toString());
        met.merge(call, 1, Integer::sum);
        met.merge("trouble", 1, Integer::sum);
        long due = face.call(call, values);
        long got = answer(call, values);
        int trouble = x.trouble();
        calls += 2;
        boolean right = got == due && trouble == face.call("trouble");
        if (!right) {
            String ahead = told.subList(Math.max(0, told.size() - MOST_TOLD), told.size()).toString();
            Check.due("run " + run + " .. " + ahead, got, due);
            Check.due("run " + run + " .. " + ahead + ", then trouble()", trouble, face.call("trouble"));
        }
        return right;
    }

    private long answer(String call, int[] values) throws IllegalAccessException {
        Object[] arguments = new Object[values.length];
        for (int i = 0; i < values.length; i++) {
            boolean isTruth = methods.get(call).getParameterTypes()[i] == boolean.class;
            arguments[i] = isTruth ? (Object) (values[i] != 0) : (Object) values[i];
        }
        try {
            Object answer = methods.get(call).invoke(x, arguments);
            return answer instanceof Boolean ? ((Boolean) answer ? 1 : 0) : ((Number) answer).longValue();
        } catch (InvocationTargetException e) {
            Check.due(call + " throws " + e.getCause(), e.getCause().getClass() == NoSuchElementException.class, true);
            return PlainFace.THROWS;
        }
    }
}
