/** Promises 40 to 43: whose each could be by colours, whose it surely is, whom to ask. */
public final class PairingsTest {
    /** Day 0: a of x, b of y, c of w, a of v; day 1 v is gone and his is there; day 2 u's is in the cupboard. */
    private static final String FOUR = "glass days 4 places 4 colours 3 reach 0"
        + ";person x sure buys first likes ab keeps 30 wears 1 takes no"
        + ";person y sure buys unlike likes ab keeps 30 wears 1 takes no"
        + ";person w sure buys first likes c keeps 30 wears 1 takes yes"
        + ";person v sure buys first likes a keeps 30 wears 1 takes no"
        + ";person u sure buys first likes abc keeps 30 wears 1 takes no"
        + ";stay x 0 to 2;stay y 0 to 2;stay w 0 to 2;stay v 0 to 0;stay u 2 to 2";

    public static void main(String[] args) {
        BrushGlass x = Check.of(FOUR);
        int[] pairings = {4, 6, 6, 1};
        int[] ask = {1, 3, 3, 0};
        int[][] could = {{11, 11, 4, 9, 0}, {11, 11, 4, 0, 0}, {11, 11, 4, 0, 0}, {0, 0, 0, 0, 0}};
        int[] surely = {-2, -2, 2, -2};
        for (int day = 0; day < 4; day++) {
            Check.fine("pairings " + day, x, x.pairings(day), pairings[day]);
            Check.fine("ask " + day, x, x.ask(day), ask[day]);
            for (int p = 0; p < 5; p++) {
                Check.fine("could " + day + " " + p, x, x.could(day, p), could[day][p]);
            }
            for (int place = 0; place < 4; place++) {
                Check.fine("surely " + day + " " + place, x, x.surely(day, place), day == 3 ? -2 : surely[place]);
            }
        }
        Check.due("u's is in the cupboard", x.place(2, 4), 8);
        Check.due("surely as the first call", Check.of(FOUR).surely(1, 2), 2);
        Check.due("ask as the first call", Check.of(FOUR).ask(1), 3);
        refusals(x);
        crowd();
        Check.end();
    }

    private static void refusals(BrushGlass x) {
        Check.refused("pairings 4", x, x.pairings(4), 2);
        Check.refused("pairings -1", x, x.pairings(-1), 2);
        Check.refused("ask 4", x, x.ask(4), 2);
        Check.refused("ask -1", x, x.ask(-1), 2);
        Check.refused("could of none", x, x.could(4, 5), 1);
        Check.refused("could of -1", x, x.could(0, -1), 1);
        Check.refused("could on none", x, x.could(4, 0), 2);
        Check.refused("could on -1", x, x.could(-1, 0), 2);
        Check.refused("surely nowhere", x, x.surely(4, 4), 1);
        Check.refused("surely at -1", x, x.surely(0, -1), 1);
        Check.refused("surely on none", x, x.surely(4, 0), 2);
        Check.refused("surely on -1", x, x.surely(-1, 0), 2);
        BrushGlass none = new BrushGlass();
        Check.refused("no glass: pairings", none, none.pairings(0), 1);
        Check.refused("no glass: could", none, none.could(0, 0), 1);
        Check.refused("no glass: surely", none, none.surely(0, 0), 1);
        Check.refused("no glass: ask", none, none.ask(0), 1);
    }

    /** Seven people of one colour, with an eighth place that is empty: 7 ways to the last. */
    private static void crowd() {
        String text = "glass days 2 places 8 colours 1 reach 0";
        String stays = "";
        for (char name = 'a'; name < 'a' + 7; name++) {
            text += ";person " + name + " sure buys rare likes a keeps 3 wears 1 takes no";
            stays += ";stay " + name + " 0 to " + (name == 'a' ? 0 : 1);
        }
        BrushGlass x = Check.of(text + stays);
        Check.due("pairings of seven", x.pairings(0), 5040);
        Check.due("ask all but one, the least bits", x.ask(0), 63);
        Check.due("pairings of six on seven", x.pairings(1), 5040);
        Check.due("ask all six", x.ask(1), 126);
        Check.due("could", x.could(0, 6), 127);
    }
}
