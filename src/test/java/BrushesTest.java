/** Promises 11 to 18: brushes, where they stand, whose they are, the cupboard. */
public final class BrushesTest {
    private static final int[][] STANDS = {
        {0, -2, -2}, {0, 1, 2}, {0, 1, 2}, {4, -2, 2}, {4, 2, 1}, {4, 2, 1}, {5, 2, 1}, {5, 2, -2}};
    private static final int[][] BRUSHES = {
        {0, 0, 0, 3, 8}, {1, 0, 1, -2, 6}, {2, 1, 1, -2, 9}, {3, 1, 2, -2, 18}, {0, 0, 3, 6, 8}, {0, 0, 6, -2, 5}};
    private static final int[][] SPOTS = {
        {0, -2, -2, -2}, {0, 1, 2, -2}, {0, 1, 2, 8}, {0, 9, 2, 8}, {0, 2, 1, 9}, {0, 2, 1, 9}, {0, 2, 1, 9}, {0, 9, 1, 9}};

    public static void main(String[] args) {
        house();
        refusals();
        habits();
        puttingBack();
        messy();
        fullGlass();
        Check.end();
    }

    private static void house() {
        BrushGlass x = House.whole();
        Check.fine("brushes", x, x.brushes(), 6);
        for (int b = 0; b < 6; b++) {
            for (int what = 0; what < 5; what++) {
                Check.fine("brush " + b + " " + what, x, x.brush(b, what), BRUSHES[b][what]);
            }
        }
        for (int day = 0; day < 8; day++) {
            int many = 0;
            for (int place = 0; place < 3; place++) {
                String where = " day " + day + " place " + place;
                int brush = STANDS[day][place];
                Check.fine("at" + where, x, x.at(day, place), brush);
                Check.fine("colour" + where, x, x.colour(day, place), brush < 0 ? -2 : BRUSHES[brush][1]);
                Check.fine("whose" + where, x, x.whose(day, place), brush < 0 ? -2 : BRUSHES[brush][0]);
                many += brush < 0 ? 0 : 1;
            }
            Check.fine("many " + day, x, x.many(day), many);
            for (int p = 0; p < 4; p++) {
                Check.fine("place " + day + " " + p, x, x.place(day, p), SPOTS[day][p]);
            }
        }
        Check.fine("full", x, x.full(), 2);
    }

    private static void refusals() {
        BrushGlass x = House.whole();
        Check.refused("brush 6", x, x.brush(6, 0), 1);
        Check.refused("brush -1", x, x.brush(-1, 0), 1);
        Check.refused("brush what 5", x, x.brush(0, 5), 1);
        Check.refused("brush what -1", x, x.brush(0, -1), 1);
        int[][] wrong = {{0, 3, 1}, {0, -1, 1}, {8, 0, 2}, {-1, 0, 2}, {8, 3, 1}};
        for (int[] call : wrong) {
            String told = call[0] + " " + call[1];
            Check.refused("at " + told, x, x.at(call[0], call[1]), call[2]);
            Check.refused("colour " + told, x, x.colour(call[0], call[1]), call[2]);
            Check.refused("whose " + told, x, x.whose(call[0], call[1]), call[2]);
        }
        Check.refused("place of none", x, x.place(8, 4), 1);
        Check.refused("place of none -1", x, x.place(0, -1), 1);
        Check.refused("place on none", x, x.place(8, 3), 2);
        Check.refused("place on -1", x, x.place(-1, 3), 2);
        Check.refused("many 8", x, x.many(8), 2);
        Check.refused("many -1", x, x.many(-1), 2);
        BrushGlass none = new BrushGlass();
        Check.refused("no glass: brushes", none, none.brushes(), 1);
        Check.refused("no glass: brush", none, none.brush(0, 0), 1);
        Check.refused("no glass: at", none, none.at(0, 0), 1);
        Check.refused("no glass: colour", none, none.colour(0, 0), 1);
        Check.refused("no glass: whose", none, none.whose(0, 0), 1);
        Check.refused("no glass: place", none, none.place(0, 0), 1);
        Check.refused("no glass: many", none, none.many(0), 1);
        Check.refused("no glass: full", none, none.full(), 1);
    }

    /** Three who come one behind the other, then one who buys by a habit. */
    private static int bought(String habit, String order, String firstOrders) {
        String text = "glass days 2 places 8 colours 4 reach 0";
        String stays = "";
        for (int i = 0; i < firstOrders.length(); i++) {
            char name = (char) ('p' + i);
            text += ";person " + name + " sure buys first likes " + firstOrders.charAt(i) + " keeps 3 wears 1 takes no";
            stays += ";stay " + name + " 0 to 0";
        }
        text += ";person a sure buys " + habit + " likes " + order + " keeps 3 wears 1 takes no;stay a 0 to 0" + stays;
        return Check.of(text).brush(firstOrders.length(), 1);
    }

    private static void habits() {
        Check.due("first", bought("first", "ba", "bb"), 1);
        Check.due("unlike: the first that none has", bought("unlike", "bacd", "ba"), 2);
        Check.due("unlike: all are there", bought("unlike", "ba", "bab"), 1);
        Check.due("rare: the fewest", bought("rare", "ba", "bab"), 0);
        Check.due("rare: the first of like ones", bought("rare", "dba", "aabbd"), 3);
        Check.due("rare: none is there", bought("rare", "cd", "ab"), 2);
    }

    private static void puttingBack() {
        // who takes it along puts it back in the first free place, and what is left stays
        BrushGlass x = Check.of("glass days 9 places 3 colours 1 reach 0"
            + ";person p sure buys first likes a keeps 3 wears 1 takes no"
            + ";person q sure buys first likes a keeps 30 wears 1 takes yes"
            + ";person r sure buys first likes a keeps 30 wears 1 takes yes"
            + ";stay p 0 to 1;stay q 0 to 1;stay r 0 to 2;stay p 8 to 8;stay q 4 to 5;stay r 4 to 4;stay q 6 to 6");
        int[][] due = {{0, 1, 2}, {0, 1, 2}, {0, 9, 2}, {0, 9, 9}, {0, 1, 2}, {0, 1, 9}, {0, 1, 9}, {0, 9, 9}, {0, 9, 9}};
        for (int day = 0; day < 9; day++) {
            for (int p = 0; p < 3; p++) {
                Check.due("put back: place " + day + " " + p, x.place(day, p), due[day][p]);
            }
        }
        Check.due("thrown away only when he is here again", x.brush(0, 3), 8);
        Check.due("bought then", x.brush(3, 2), 8);
        Check.due("in all", x.brushes(), 4);
    }

    private static void messy() {
        BrushGlass x = Check.of("glass days 4 places 4 colours 2 reach 0"
            + ";person p sure buys first likes a keeps 3 wears 1 takes yes"
            + ";person q messy buys first likes b keeps 30 wears 1 takes no"
            + ";stay p 0 to 0;stay q 0 to 3;stay p 3 to 3;moves 2 0,3");
        Check.due("no other is free ahead of it", x.place(0, 1), 1);
        Check.due("the first free place", x.place(1, 1), 0);
        Check.due("from the last place to the first", x.place(2, 1), 0);
        Check.due("its own place stays", x.place(3, 1), 0);
        Check.due("who comes finds the next", x.place(3, 0), 1);
    }

    private static void fullGlass() {
        // in the cupboard it stays until he comes again, though places are free
        BrushGlass x = Check.of("glass days 6 places 2 colours 1 reach 0"
            + ";person p sure buys first likes a keeps 30 wears 1 takes yes"
            + ";person q sure buys first likes a keeps 30 wears 1 takes yes"
            + ";person r place buys first likes a keeps 30 wears 1 takes no"
            + ";stay p 0 to 1;stay q 0 to 3;stay r 1 to 3;stay r 4 to 5");
        Check.due("full on day 1", x.full(), 1);
        int[] due = {-2, 8, 8, 8, 0, 0};
        for (int day = 0; day < 6; day++) {
            Check.due("cupboard: place " + day, x.place(day, 2), due[day]);
            Check.due("cupboard: uses " + day, x.uses(day, 2), day == 0 ? -2 : 2);
        }
        Check.due("many", x.many(2), 1);
        BrushGlass never = Check.of("glass days 2 places 2 colours 1 reach 0"
            + ";person p sure buys first likes a keeps 30 wears 1 takes yes;stay p 0 to 1");
        Check.fine("never full", never, never.full(), -2);
    }
}
