/** Promises 6 to 10: people, what they like, their stays, who is here. */
public final class PeopleTest {
    public static void main(String[] args) {
        BrushGlass x = House.whole();
        int[][] people = {{0, 0, 3, 2, 0, 1}, {1, 0, 30, 1, 1, 2}, {2, 1, 30, 3, 0, 1}, {3, 2, 30, 9, 1, 1}};
        for (int p = 0; p < 4; p++) {
            for (int what = 0; what < 6; what++) {
                Check.fine("person " + p + " " + what, x, x.person(p, what), people[p][what]);
            }
        }
        x.kind(0, 3);
        x.habit(0, 2);
        x.keep(0, 9);
        Check.due("kind now", x.person(0, 0), 3);
        Check.due("habit now", x.person(0, 1), 2);
        Check.due("keeps now", x.person(0, 2), 9);
        Check.refused("person 4", x, x.person(4, 0), 1);
        Check.refused("person -1", x, x.person(-1, 0), 1);
        Check.refused("what 6", x, x.person(0, 6), 1);
        Check.refused("what -1", x, x.person(0, -1), 1);
        likes(x);
        stays(x);
        here(x);
        BrushGlass none = new BrushGlass();
        Check.refused("no glass: person", none, none.person(0, 0), 1);
        Check.refused("no glass: likes", none, none.likes(0, 0), 1);
        Check.refused("no glass: stay", none, none.stay(0, 0, 0), 1);
        Check.refused("no glass: here", none, none.here(-1), 1);
        Check.refused("no glass: most", none, none.most(), 1);
        Check.end();
    }

    private static void likes(BrushGlass x) {
        int[] due = {1, 0};
        for (int i = 0; i < 2; i++) {
            Check.fine("likes 3 " + i, x, x.likes(3, i), due[i]);
        }
        Check.fine("likes 2 2", x, x.likes(2, 2), 2);
        Check.refused("likes beyond", x, x.likes(3, 2), 1);
        Check.refused("likes -1", x, x.likes(3, -1), 1);
        Check.refused("likes of none", x, x.likes(4, 0), 1);
    }

    private static void stays(BrushGlass x) {
        Check.fine("stay 1 0 0", x, x.stay(1, 0, 0), 1);
        Check.fine("stay 1 0 1", x, x.stay(1, 0, 1), 2);
        Check.fine("stay 1 1 0", x, x.stay(1, 1, 0), 4);
        Check.fine("stay 1 1 1", x, x.stay(1, 1, 1), 6);
        Check.refused("stay beyond", x, x.stay(1, 2, 0), 1);
        Check.refused("stay -1", x, x.stay(1, -1, 0), 1);
        Check.refused("stay what 2", x, x.stay(1, 0, 2), 1);
        Check.refused("stay what -1", x, x.stay(1, 0, -1), 1);
        Check.refused("stay of none", x, x.stay(4, 0, 0), 1);
    }

    private static void here(BrushGlass x) {
        int[] due = {1, 7, 15, 13, 7, 7, 3, 1};
        for (int day = 0; day < 8; day++) {
            Check.fine("here " + day, x, x.here(day), due[day]);
        }
        Check.refused("here 8", x, x.here(8), 2);
        Check.refused("here -1", x, x.here(-1), 2);
        Check.fine("most", x, x.most(), 4);
        BrushGlass nobody = Check.of("glass days 2 places 2 colours 1 reach 0"
            + ";person p sure buys first likes a keeps 3 wears 1 takes no");
        Check.fine("most of nobody", nobody, nobody.most(), 0);
    }
}
