import java.lang.reflect.InvocationTargetException;
import java.lang.reflect.Method;
import java.lang.reflect.Modifier;
import java.util.ArrayList;
import java.util.Comparator;
import java.util.List;
import java.util.NoSuchElementException;
import java.util.Random;

/** Any calls with any numbers: nothing is thrown but by led, and refusals have a number that is told. */
public final class NeverThrowsTest {
    private static final int[] EDGES = {
        -1, 0, 1, 2, 3, 7, 8, 9, 12, 29, 30, 31, 65536, 65537, Integer.MAX_VALUE, Integer.MIN_VALUE};
    private static final String CROWD = "glass days 30 places 8 colours 2 reach 99"
        + ";person p messy buys rare likes ab keeps 3 wears 9 takes yes"
        + ";person q colour buys rare likes ba keeps 3 wears 9 takes no"
        + ";person r place buys unlike likes ab keeps 3 wears 9 takes yes"
        + ";person s sure buys first likes b keeps 3 wears 9 takes yes"
        + ";person t messy buys rare likes ab keeps 3 wears 9 takes no"
        + ";person u colour buys rare likes ab keeps 3 wears 9 takes yes"
        + ";person v place buys unlike likes ab keeps 3 wears 9 takes yes"
        + ";stay p 0 to 29;stay q 0 to 29;stay r 0 to 29;stay s 0 to 29;stay t 0 to 29;stay u 0 to 29;stay v 0 to 29"
        + ";moves 29 0,7;seen 28 abababaz;seen 29 babababz;says v 29 7";

    public static void main(String[] args) throws IllegalAccessException {
        List<Method> calls = new ArrayList<>();
        for (Method method : BrushGlass.class.getDeclaredMethods()) {
            if (Modifier.isPublic(method.getModifiers())) {
                calls.add(method);
            }
        }
        calls.sort(Comparator.comparing(Method::getName));
        Random chance = new Random(3);
        for (int round = 0; round < 150; round++) {
            BrushGlass x = new BrushGlass();
            String text = round % 3 == 0 ? "" : round % 3 == 1 ? CROWD : House.PEOPLE + ";seen 7 zab;says di 2 0";
            if (!text.isEmpty()) {
                Check.feed(x, text);
                x.glass(text.length());
            }
            for (int i = 0; i < 450; i++) {
                call(x, calls.get(chance.nextInt(calls.size())), chance);
            }
        }
        dearest();
        Check.end();
    }

    private static void call(BrushGlass x, Method method, Random chance) throws IllegalAccessException {
        if (method.getName().equals("glass") && chance.nextInt(4) != 0) {
            return;
        }
        Object[] values = new Object[method.getParameterCount()];
        StringBuilder told = new StringBuilder(method.getName());
        for (int i = 0; i < values.length; i++) {
            int number = chance.nextInt(3) == 0 ? EDGES[chance.nextInt(EDGES.length)] : chance.nextInt(6);
            values[i] = method.getParameterTypes()[i] == boolean.class ? (Object) chance.nextBoolean() : (Object) number;
            told.append(' ').append(values[i]);
        }
        try {
            Object answer = method.invoke(x, values);
            boolean refused = answer.equals(-1) || answer.equals(-1L) || answer.equals(false);
            boolean numbered = !List.of("feed", "fault", "where", "led", "size", "trouble").contains(method.getName());
            if (numbered) {
                Check.due(told + " is refused", x.trouble() != 0, refused);
            }
        } catch (InvocationTargetException e) {
            boolean due = method.getName().equals("led") && e.getCause().getClass() == NoSuchElementException.class;
            Check.due(told + " throws " + e.getCause(), due, true);
        }
    }

    /** As many brushes as there can be. */
    private static void dearest() {
        BrushGlass x = Check.of(CROWD);
        Check.due("brushes", x.brushes(), 70);
        Check.due("the last", x.brush(69, 2), 27);
        Check.due("none behind it", x.brush(70, 0), -1);
    }
}
