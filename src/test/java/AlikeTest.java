/** Promises 25 to 33: what is alike, notches, best habits and kinds, fewest colours. */
public final class AlikeTest {
    public static void main(String[] args) {
        BrushGlass x = House.whole();
        int[] alike = {0, 1, 1, 0, 1, 1, 1, 0};
        for (int day = 0; day < 8; day++) {
            Check.fine("alike " + day, x, x.alike(day), alike[day]);
        }
        Check.fine("alikeDays", x, x.alikeDays(), 5);
        Check.fine("notches", x, x.notches(), 1);
        int[] byHabit = {7, 5, 5};
        for (int habit = 0; habit < 3; habit++) {
            Check.fine("byHabit " + habit, x, x.byHabit(habit), byHabit[habit]);
        }
        Check.fine("bestHabit", x, x.bestHabit(), 1);
        int[] byKind = {0, 5, 5, 0};
        for (int kind = 0; kind < 4; kind++) {
            Check.fine("byKind " + kind, x, x.byKind(kind), byKind[kind]);
        }
        Check.fine("bestKind", x, x.bestKind(), 0);
        Check.due("all is as it was", x.sharedAll(), 7);
        Check.due("alikeDays as they were", x.alikeDays(), 5);
        refusals(x);
        crowds();
        rareIsBest();
        colours();
        Check.end();
    }

    private static void refusals(BrushGlass x) {
        Check.refused("alike 8", x, x.alike(8), 2);
        Check.refused("alike -1", x, x.alike(-1), 2);
        Check.refused("byHabit 3", x, x.byHabit(3), 1);
        Check.refused("byHabit -1", x, x.byHabit(-1), 1);
        Check.refused("byKind 4", x, x.byKind(4), 1);
        Check.refused("byKind -1", x, x.byKind(-1), 1);
        Check.refused("colourOf 4", x, x.colourOf(4), 1);
        Check.refused("colourOf -1", x, x.colourOf(-1), 1);
        BrushGlass none = new BrushGlass();
        Check.refused("no glass: alike", none, none.alike(0), 1);
        Check.refused("no glass: alikeDays", none, none.alikeDays(), 1);
        Check.refused("no glass: notches", none, none.notches(), 1);
        Check.refused("no glass: byHabit", none, none.byHabit(0), 1);
        Check.refused("no glass: bestHabit", none, none.bestHabit(), 1);
        Check.refused("no glass: byKind", none, none.byKind(0), 1);
        Check.refused("no glass: bestKind", none, none.bestKind(), 1);
        Check.refused("no glass: colours", none, none.colours(), 1);
        Check.refused("no glass: colourOf", none, none.colourOf(0), 1);
    }

    /** As many as told with a brush of one colour, all there on day 0. */
    private static void crowds() {
        int[] notches = {0, 0, 1, 2, 2, 3, 3, 3};
        for (int people = 1; people <= 7; people++) {
            String text = "glass days 2 places 8 colours 1 reach 0";
            String stays = "";
            for (int p = 0; p < people; p++) {
                char name = (char) ('a' + p);
                text += ";person " + name + " sure buys rare likes a keeps 3 wears 1 takes no";
                stays += ";stay " + name + " 0 to 0";
            }
            BrushGlass x = Check.of(text + stays);
            Check.due("alike of " + people, x.alike(1), people * (people - 1) / 2);
            Check.due("notches of " + people, x.notches(), notches[people]);
            Check.due("alikeDays of " + people, x.alikeDays(), people > 1 ? 2 : 0);
            Check.due("colours of " + people, x.colours(), people);
            Check.due("alone none is alike, and no habit is better", x.bestHabit(), 0);
        }
        BrushGlass nobody = Check.of("glass days 2 places 8 colours 1 reach 0"
            + ";person p sure buys rare likes a keeps 3 wears 1 takes no");
        Check.due("notches of none", nobody.notches(), 0);
        Check.due("colours of one who is never here", nobody.colours(), 1);
        Check.due("colour of one who is never here", nobody.colourOf(0), 0);
    }

    /** Two a and one b stand there when r buys: by rare alone he buys b, and s takes the other b along. */
    private static void rareIsBest() {
        BrushGlass x = Check.of("glass days 6 places 8 colours 3 reach 0"
            + ";person p sure buys first likes a keeps 30 wears 1 takes yes"
            + ";person q sure buys first likes a keeps 30 wears 1 takes yes"
            + ";person s sure buys first likes b keeps 30 wears 1 takes yes"
            + ";person r sure buys first likes ab keeps 30 wears 1 takes yes"
            + ";stay p 0 to 5;stay q 0 to 0;stay s 0 to 0;stay r 0 to 5");
        // first and unlike: r has a beside p's all days; rare: r has b beside s's on day 0 alone
        Check.due("by first", x.byHabit(0), 6);
        Check.due("by unlike", x.byHabit(1), 6);
        Check.due("by rare", x.byHabit(2), 1);
        Check.due("rare is best", x.bestHabit(), 2);
    }

    private static String people(int count) {
        String text = "glass days 9 places 2 colours 1 reach 0";
        for (int p = 0; p < count; p++) {
            text += ";person " + (char) ('a' + p) + " sure buys rare likes a keeps 3 wears 1 takes no";
        }
        return text;
    }

    private static void due(String told, BrushGlass x, int colours, int[] each) {
        Check.fine(told, x, x.colours(), colours);
        for (int p = 0; p < each.length; p++) {
            Check.fine(told + " of " + p, x, x.colourOf(p), each[p]);
        }
    }

    private static void colours() {
        BrushGlass ring = Check.of(people(6)
            + ";stay a 0 to 0;stay b 0 to 1;stay c 1 to 2;stay d 2 to 3;stay e 3 to 4;stay a 4 to 4");
        Check.due("a ring: most", ring.most(), 2);
        due("a ring of five, and one who is never here", ring, 3, new int[] {0, 1, 0, 1, 2, 0});
        // the least number for b alone would need a third colour in the end
        BrushGlass path = Check.of(people(4) + ";stay a 0 to 0;stay c 0 to 1;stay d 1 to 2;stay b 2 to 2");
        due("a path", path, 2, new int[] {0, 1, 1, 0});
        due("the house", House.whole(), 4, new int[] {0, 1, 2, 3});
    }
}
