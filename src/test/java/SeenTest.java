/** Promises 34 to 39: seeings, what explains them, sayings. */
public final class SeenTest {
    private static final String ONE = "glass days 3 places 2 colours 2 reach 0"
        + ";person p sure buys first likes a keeps 30 wears 1 takes no;stay p 0 to 2";

    public static void main(String[] args) {
        judging();
        explaining();
        chains();
        refusals();
        saying();
        Check.end();
    }

    private static void judging() {
        BrushGlass x = House.with("seen 7 abz;seen 2 aab;seen 4 aba;seen 4 aab;seen 3 azz;seen 0 zzz");
        Check.fine("judge", x, x.judge(), 3);
        int[] due = {-2, -2, -2, 1, 2, 0};
        for (int seeing = 0; seeing < 6; seeing++) {
            Check.fine("judgeAt " + seeing, x, x.judgeAt(seeing), due[seeing]);
        }
        BrushGlass right = House.with("seen 7 abz");
        Check.fine("all are right", right, right.judge(), -2);
        BrushGlass none = House.whole();
        Check.fine("nothing was seen", none, none.judge(), -2);
    }

    private static void explained(String lines, int[][] due) {
        BrushGlass x = Check.of(ONE + lines);
        Check.fine("explains" + lines, x, x.explains(), due.length);
        for (int i = 0; i < due.length; i++) {
            for (int what = 0; what < 3; what++) {
                Check.fine("explain" + lines + " " + i + " " + what, x, x.explain(i, what), due[i][what]);
            }
        }
        Check.refused("explain beyond" + lines, x, x.explain(due.length, 0), 1);
        Check.refused("explain -1" + lines, x, x.explain(-1, 0), 1);
    }

    private static void explaining() {
        explained(";seen 2 za", new int[][] {{0, 0, 1}, {1, 0, 1}, {2, 0, 1}});
        explained(";seen 2 za;seen 1 az", new int[][] {{2, 0, 1}});
        explained(";seen 1 az;seen 2 za;seen 0 az", new int[][] {{2, 0, 1}});
        explained(";seen 0 za", new int[][] {{0, 0, 1}});
        explained(";seen 0 za;seen 1 az", new int[][] {});
        explained(";seen 1 bz", new int[][] {});
        explained(";seen 2 az;moves 1 0,1", new int[][] {{0, 0, 1}, {1, 0, 1}, {2, 0, 1}});
    }

    /** By days, then the lesser place, then the other; an act makes it all anew. */
    private static void chains() {
        BrushGlass x = Check.of("glass days 2 places 4 colours 2 reach 0"
            + ";person p sure buys first likes a keeps 30 wears 1 takes no"
            + ";person q sure buys first likes a keeps 30 wears 1 takes no"
            + ";stay p 0 to 1;stay q 0 to 1;seen 1 zaaz");
        int[][] due = {{0, 0, 2}, {1, 0, 2}};
        Check.fine("chain", x, x.explains(), 2);
        for (int i = 0; i < 2; i++) {
            for (int what = 0; what < 3; what++) {
                Check.due("chain " + i + " " + what, x.explain(i, what), due[i][what]);
            }
        }
        x.move(1, 2, 3);
        Check.fine("behind the moves of its day", x, x.explains(), 2);
        Check.due("ahead of a later move of that place", x.explain(0, 0), 0);
        Check.due("it was moved from there", x.explain(0, 2), 3);
        Check.due("behind it", x.explain(1, 2), 2);
        x.undo();
        Check.due("undone", x.explain(0, 2), 2);
        x.move(0, 0, 2);
        Check.refused("now all are right", x, x.explains(), 5);
    }

    private static void refusals() {
        BrushGlass x = Check.of(ONE + ";seen 0 az");
        Check.refused("all are right: explains", x, x.explains(), 5);
        Check.refused("all are right: explain", x, x.explain(0, 0), 5);
        Check.refused("all are right: explain what", x, x.explain(0, 3), 1);
        Check.refused("all are right: explain -1", x, x.explain(-1, 2), 5);
        Check.refused("judgeAt 1", x, x.judgeAt(1), 1);
        Check.refused("judgeAt -1", x, x.judgeAt(-1), 1);
        BrushGlass y = Check.of(ONE + ";seen 0 za");
        Check.refused("explain what 3", y, y.explain(0, 3), 1);
        Check.refused("explain what -1", y, y.explain(0, -1), 1);
        BrushGlass none = new BrushGlass();
        Check.refused("no glass: judge", none, none.judge(), 1);
        Check.refused("no glass: judgeAt", none, none.judgeAt(0), 1);
        Check.refused("no glass: explains", none, none.explains(), 1);
        Check.refused("no glass: explain", none, none.explain(0, 0), 1);
        Check.refused("no glass: isTrue", none, none.isTrue(0), 1);
        Check.refused("no glass: wrongOnes", none, none.wrongOnes(), 1);
    }

    private static void saying() {
        BrushGlass x = House.with("says ann 0 0;says bob 4 1;says bob 4 2;says cy 7 1;says di 2 0;says ann 3 1;says cy 0 0");
        int[] due = {1, 0, 1, 1, 0, 0, 0};
        for (int saying = 0; saying < 7; saying++) {
            Check.fine("isTrue " + saying, x, x.isTrue(saying), due[saying]);
        }
        Check.refused("isTrue 7", x, x.isTrue(7), 1);
        Check.refused("isTrue -1", x, x.isTrue(-1), 1);
        Check.fine("wrongOnes", x, x.wrongOnes(), 15);
        BrushGlass y = House.with("says bob 4 1;says cy 7 1;says bob 4 2");
        Check.fine("wrongOnes", y, y.wrongOnes(), 2);
        BrushGlass silent = House.whole();
        Check.fine("none says anything", silent, silent.wrongOnes(), 0);
    }
}
