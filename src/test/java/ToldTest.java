import java.util.NoSuchElementException;

/** Promises 54 to 56: who is led to another one's, sizes, trouble. */
public final class ToldTest {
    public static void main(String[] args) {
        led();
        sizes();
        trouble();
        Check.end();
    }

    private static void noneLed(String told, BrushGlass x, int i) {
        int before = x.trouble();
        boolean thrown = false;
        try {
            x.led(i);
        } catch (NoSuchElementException e) {
            thrown = e.getClass() == NoSuchElementException.class;
        }
        Check.due(told + " throws", thrown, true);
        Check.due(told + " leaves trouble", x.trouble(), before);
    }

    private static void led() {
        BrushGlass x = House.whole();
        Check.due("led 0", x.led(0), 1);
        Check.due("led 1", x.led(1), 2);
        noneLed("led 2", x, 2);
        noneLed("led -1", x, -1);
        noneLed("led of most", x, Integer.MAX_VALUE);
        noneLed("led of least", x, Integer.MIN_VALUE);
        x.kind(1, 0);
        Check.due("led 0 now", x.led(0), 2);
        noneLed("led 1 now", x, 1);
        noneLed("no glass: led", new BrushGlass(), 0);
    }

    private static void sizes() {
        BrushGlass x = House.with("seen 0 zzz;seen 1 zzz;says ann 0 0;says ann 0 0;says ann 0 0");
        x.seed(11);
        x.mark();
        x.mark();
        x.kind(0, 3);
        x.move(0, 0, 1);
        x.feed(1, 2, 3, 4, 5);
        int[] due = {8, 3, 3, 50, 4, 2, 2, 3, 11, 2, 2, 20};
        for (int what = 0; what < 12; what++) {
            Check.due("size " + what, x.size(what), due[what]);
        }
        Check.due("size 12", x.size(12), -1);
        Check.due("size -1", x.size(-1), -1);
        BrushGlass none = new BrushGlass();
        none.feed(1, 2, 3, 4, 5);
        Check.due("no glass: size 11", none.size(11), 20);
        Check.due("no glass: size 8", none.size(8), 0);
        Check.due("no glass: size 12", none.size(12), -1);
    }

    /** Calls of which no number is told leave it as it is. */
    private static void trouble() {
        BrushGlass x = House.whole();
        Check.due("none", x.trouble(), 0);
        x.here(99);
        Check.due("a number", x.trouble(), 2);
        x.size(99);
        x.fault();
        x.where();
        x.trouble();
        x.led(0);
        for (int i = 0; i < 51; i++) {
            x.feed(0, 0, 0, 0, 0);
        }
        noneLed("led 9", x, 9);
        Check.due("still a number", x.trouble(), 2);
        x.here(0);
        Check.due("none again", x.trouble(), 0);
    }
}
