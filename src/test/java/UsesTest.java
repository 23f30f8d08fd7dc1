/** Promises 19 to 24: who uses which, what is wet, what is shared. */
public final class UsesTest {
    private static final int[][] USES = {
        {0, -2, -2, -2}, {0, 0, 2, -2}, {0, 0, 2, 3}, {4, -2, 2, 3}, {4, 4, 1, -2}, {4, 4, 1, -2}, {5, 5, -2, -2}, {5, -2, -2, -2}};
    private static final int[] WET = {1, 5, 5, 5, 5, 5, 1, 1};
    private static final int[] SHARED = {0, 1, 1, 0, 2, 2, 1, 0};

    public static void main(String[] args) {
        BrushGlass x = House.whole();
        for (int day = 0; day < 8; day++) {
            for (int p = 0; p < 4; p++) {
                Check.fine("uses " + day + " " + p, x, x.uses(day, p), USES[day][p]);
            }
            for (int place = 0; place < 3; place++) {
                Check.fine("wet " + day + " " + place, x, x.wet(day, place), WET[day] >> place & 1);
            }
            Check.fine("shared " + day, x, x.shared(day), SHARED[day]);
        }
        Check.fine("sharedAll", x, x.sharedAll(), 7);
        int[] suffers = {5, 2, 0, 0};
        int[] sins = {0, 5, 2, 0};
        for (int p = 0; p < 4; p++) {
            Check.fine("suffers " + p, x, x.suffers(p), suffers[p]);
            Check.fine("sins " + p, x, x.sins(p), sins[p]);
        }
        refusals(x);
        emptyPlace();
        oneBehindTheOther();
        Check.end();
    }

    private static void refusals(BrushGlass x) {
        Check.refused("uses of none", x, x.uses(8, 4), 1);
        Check.refused("uses of -1", x, x.uses(0, -1), 1);
        Check.refused("uses on none", x, x.uses(8, 0), 2);
        Check.refused("uses on -1", x, x.uses(-1, 0), 2);
        Check.refused("wet nowhere", x, x.wet(8, 3), 1);
        Check.refused("wet at -1", x, x.wet(0, -1), 1);
        Check.refused("wet on none", x, x.wet(8, 0), 2);
        Check.refused("wet on -1", x, x.wet(-1, 0), 2);
        Check.refused("shared on none", x, x.shared(8), 2);
        Check.refused("shared on -1", x, x.shared(-1), 2);
        Check.refused("suffers of none", x, x.suffers(4), 1);
        Check.refused("suffers of -1", x, x.suffers(-1), 1);
        Check.refused("sins of none", x, x.sins(4), 1);
        Check.refused("sins of -1", x, x.sins(-1), 1);
        BrushGlass none = new BrushGlass();
        Check.refused("no glass: uses", none, none.uses(0, 0), 1);
        Check.refused("no glass: wet", none, none.wet(0, 0), 1);
        Check.refused("no glass: shared", none, none.shared(0), 1);
        Check.refused("no glass: sharedAll", none, none.sharedAll(), 1);
        Check.refused("no glass: suffers", none, none.suffers(0), 1);
        Check.refused("no glass: sins", none, none.sins(0), 1);
    }

    /** Who goes by the place finds nothing there, and uses his own. */
    private static void emptyPlace() {
        BrushGlass x = Check.of("glass days 2 places 3 colours 1 reach 0"
            + ";person p place buys first likes a keeps 30 wears 1 takes no;stay p 0 to 1;moves 1 0,2");
        Check.due("stands elsewhere", x.at(1, 2), 0);
        Check.due("uses his own", x.uses(1, 0), 0);
        Check.due("not shared", x.sharedAll(), 0);
    }

    /** A messy one puts his ahead of the next one's use in the same evening. */
    private static void oneBehindTheOther() {
        BrushGlass x = Check.of("glass days 2 places 3 colours 1 reach 0"
            + ";person p messy buys first likes a keeps 30 wears 1 takes no"
            + ";person q colour buys first likes a keeps 30 wears 1 takes no"
            + ";person r place buys first likes a keeps 30 wears 1 takes no"
            + ";stay p 0 to 1;stay q 0 to 1;moves 1 0,2");
        Check.due("p's goes to the first place", x.place(1, 0), 0);
        Check.due("q finds it ahead of his own", x.uses(1, 1), 0);
        Check.due("r has none", x.place(1, 2), -2);
    }
}
