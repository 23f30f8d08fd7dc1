/** The example of README.md. */
public final class ReadmeTest {
    private static final String TEXT = "glass days 6 places 3 colours 3 reach 50"
        + ";person m sure buys first likes ab keeps 3 wears 2 takes no;stay m 0 to 5";

    public static void main(String[] args) {
        BrushGlass x = new BrushGlass();
        Check.due("the first twenty bytes", x.feed(0x676c6173, 0x73206461, 0x79732036, 0x20706c61, 0x63657320), 20);
        Check.feed(x, TEXT.substring(20));
        Check.due("bytes of the text", TEXT.length(), 113);
        Check.fine("glass(113)", x, x.glass(113), 1);
        Check.fine("whose(2, 0)", x, x.whose(2, 0), 0);
        Check.fine("whose(2, 1)", x, x.whose(2, 1), -2);
        Check.fine("move(1, 0, 2)", x, x.move(1, 0, 2));
        Check.fine("whose(2, 0), moved", x, x.whose(2, 0), -2);
        Check.fine("undo", x, x.undo());
        Check.fine("whose(2, 0) again", x, x.whose(2, 0), 0);
        Check.refused("whose(6, 0)", x, x.whose(6, 0), 2);
        Check.due("NONE", BrushGlass.NONE, -1);
        Check.end();
    }
}
