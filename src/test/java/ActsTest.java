/** Promises 45 to 53: moves and shakes, kinds, habits and keeps changed, the seed, undoing, marks. */
public final class ActsTest {
    public static void main(String[] args) {
        moves();
        shakes();
        changes();
        seeds();
        undoing();
        marks();
        noGlass();
        Check.end();
    }

    private static void moves() {
        BrushGlass x = House.with("moves 0 0,1");
        Check.fine("move", x, x.move(0, 1, 2));
        Check.due("behind those that are told", x.at(0, 2), 0);
        Check.fine("move back", x, x.move(0, 2, 0));
        Check.due("as they come", x.at(0, 0), 0);
        Check.fine("nothing is exchanged", x, x.move(0, 1, 2));
        Check.due("moves now", x.size(5), 5);
        Check.refused("alike places", x, x.move(9, 1, 1), 1);
        Check.refused("place 3", x, x.move(9, 3, 0), 1);
        Check.refused("place -1", x, x.move(0, -1, 0), 1);
        Check.refused("other 3", x, x.move(0, 0, 3), 1);
        Check.refused("other -1", x, x.move(0, 0, -1), 1);
        Check.refused("day 8", x, x.move(8, 0, 1), 2);
        Check.refused("day -1", x, x.move(-1, 0, 1), 2);
        for (int i = 0; i < 9; i++) {
            Check.fine("move " + i, x, x.move(7, 0, 1));
        }
        Check.refused("a thirteenth move", x, x.move(0, 0, 1), 3);
        Check.refused("a thirteenth move on no day", x, x.move(8, 0, 1), 2);
        Check.due("moves now", x.size(5), 14);
        Check.due("acts", x.size(9), 12);
        Check.refused("a thirteenth by a shake", x, x.shake(), 3);
        Check.due("no draw", x.size(8), 0);
        x.undo();
        Check.fine("room again", x, x.shake(), 200);
    }

    private static void shakes() {
        BrushGlass x = Check.of("glass days 5 places 3 colours 1 reach 0"
            + ";person p sure buys first likes a keeps 30 wears 1 takes no;stay p 0 to 4");
        Check.due("ahead of it", x.at(4, 1), -2);
        Check.fine("74 mod 5, 5624 mod 2", x, x.shake(), 400);
        Check.due("seed", x.size(8), 5624);
        Check.due("moved", x.at(4, 1), 0);
        Check.due("not ahead of it", x.at(3, 0), 0);
        Check.fine("28652 mod 5, 51790 mod 2", x, x.shake(), 200);
        Check.due("seed", x.size(8), 51790);
        x.undo();
        Check.due("seed undone", x.size(8), 5624);
        Check.due("moves undone", x.size(5), 1);
        x.seed(65536);
        // 75 times 65536 and 74 is -1 mod 65537, so it stays
        Check.fine("65536 mod 5 and 65536 mod 2", x, x.shake(), 100);
        Check.due("seed stays", x.size(8), 65536);
        x.seed(1);
        // 149, then 11249
        Check.fine("149 mod 5, 11249 mod 2", x, x.shake(), 401);
        BrushGlass narrow = Check.of("glass days 2 places 2 colours 1 reach 0"
            + ";person p sure buys first likes a keeps 30 wears 1 takes no;stay p 0 to 1");
        Check.fine("74 mod 2, and one pair of places alone", narrow, narrow.shake(), 0);
        Check.due("moved", narrow.at(0, 1), 0);
    }

    private static void changes() {
        BrushGlass x = House.whole();
        Check.fine("bob is sure", x, x.kind(1, 0));
        Check.due("cy alone sins", x.sharedAll(), 2);
        Check.refused("bob is that", x, x.kind(1, 0), 5);
        Check.refused("kind 4", x, x.kind(1, 4), 1);
        Check.refused("kind -1", x, x.kind(1, -1), 1);
        Check.refused("kind of none", x, x.kind(4, 0), 1);
        Check.refused("kind of -1", x, x.kind(-1, 0), 1);
        Check.fine("cy buys by first", x, x.habit(2, 0));
        Check.due("a now", x.colour(1, 2), 0);
        Check.refused("cy does that", x, x.habit(2, 0), 5);
        Check.refused("habit 3", x, x.habit(2, 3), 1);
        Check.refused("habit -1", x, x.habit(2, -1), 1);
        Check.refused("habit of none", x, x.habit(4, 0), 1);
        Check.refused("habit of -1", x, x.habit(-1, 0), 1);
        Check.fine("ann keeps 4", x, x.keep(0, 4));
        Check.due("bought on 4", x.brush(4, 2), 4);
        Check.due("fewer in all", x.brushes(), 5);
        Check.fine("ann keeps 30", x, x.keep(0, 30));
        Check.due("none is thrown away", x.brush(0, 3), -2);
        Check.fine("ann keeps 3", x, x.keep(0, 3));
        Check.refused("she keeps so", x, x.keep(0, 3), 5);
        Check.refused("keep 2", x, x.keep(0, 2), 2);
        Check.refused("keep 31", x, x.keep(0, 31), 2);
        Check.refused("keep of none", x, x.keep(4, 2), 1);
        Check.refused("keep of -1", x, x.keep(-1, 5), 1);
        Check.due("acts", x.size(9), 5);
    }

    private static void seeds() {
        BrushGlass x = House.whole();
        Check.fine("seed 65536", x, x.seed(65536));
        Check.due("seed", x.size(8), 65536);
        Check.refused("seed 65537", x, x.seed(65537), 2);
        Check.refused("seed -1", x, x.seed(-1), 2);
        Check.due("seed stays", x.size(8), 65536);
        Check.fine("seed 0", x, x.seed(0));
        Check.due("seed 0", x.size(8), 0);
        Check.fine("seed 7", x, x.seed(7));
        Check.due("no act", x.size(9), 0);
        x.move(0, 0, 1);
        x.seed(9);
        x.undo();
        Check.due("seed as ahead of the act", x.size(8), 7);
    }

    private static void undoing() {
        BrushGlass x = House.whole();
        Check.refused("nothing to undo", x, x.undo(), 6);
        x.kind(0, 3);
        x.habit(0, 2);
        x.keep(0, 30);
        x.move(0, 0, 1);
        Check.due("acts", x.size(9), 4);
        Check.fine("undo move", x, x.undo());
        Check.due("moves", x.size(5), 1);
        Check.due("still keeps 30", x.person(0, 2), 30);
        x.undo();
        Check.due("keeps 3", x.person(0, 2), 3);
        x.undo();
        Check.due("first", x.person(0, 1), 0);
        x.undo();
        Check.due("sure", x.person(0, 0), 0);
        Check.due("all as it was", x.sharedAll(), 7);
        Check.refused("all undone", x, x.undo(), 6);
        for (int i = 0; i < 20; i++) {
            Check.fine("keep " + (4 + i), x, x.keep(0, 4 + i));
            Check.due("acts", x.size(9), Math.min(i + 1, 16));
        }
        for (int i = 0; i < 16; i++) {
            Check.fine("undo " + i, x, x.undo());
            Check.due("keeps", x.person(0, 2), 22 - i);
        }
        Check.refused("no more are kept", x, x.undo(), 6);
        Check.due("keeps 7", x.person(0, 2), 7);
    }

    private static void marks() {
        BrushGlass x = House.whole();
        Check.refused("no mark", x, x.back(0), 1);
        x.kind(1, 0);
        x.seed(3);
        Check.fine("first mark", x, x.mark(), 0);
        x.kind(2, 0);
        x.habit(2, 0);
        x.keep(2, 5);
        x.shake();
        Check.fine("second mark", x, x.mark(), 1);
        Check.fine("third mark", x, x.mark(), 2);
        Check.refused("no room for a mark", x, x.mark(), 3);
        Check.due("marks are no acts", x.size(9), 5);
        Check.due("marks", x.size(10), 3);
        Check.fine("undo goes on", x, x.undo());
        Check.fine("back to the first", x, x.back(0));
        Check.due("seed", x.size(8), 3);
        Check.due("moves", x.size(5), 1);
        Check.due("kind as by the mark", x.person(2, 0), 2);
        Check.due("habit as by the mark", x.person(2, 1), 1);
        Check.due("keep as by the mark", x.person(2, 2), 30);
        Check.due("days as by the mark", x.sharedAll(), 2);
        Check.due("marks stay", x.size(10), 3);
        Check.due("nothing to undo", x.size(9), 0);
        Check.refused("nothing to undo", x, x.undo(), 6);
        Check.fine("back to the second", x, x.back(1));
        Check.due("moves by the second", x.size(5), 2);
        Check.due("keep by the second", x.person(2, 2), 5);
        Check.refused("mark 3", x, x.back(3), 1);
        Check.refused("mark -1", x, x.back(-1), 1);
    }

    private static void noGlass() {
        BrushGlass x = new BrushGlass();
        Check.refused("no glass: move", x, x.move(0, 0, 1), 1);
        Check.refused("no glass: shake", x, x.shake(), 1);
        Check.refused("no glass: kind", x, x.kind(0, 0), 1);
        Check.refused("no glass: habit", x, x.habit(0, 0), 1);
        Check.refused("no glass: keep", x, x.keep(0, 3), 1);
        Check.refused("no glass: seed", x, x.seed(-1), 1);
        Check.refused("no glass: undo", x, x.undo(), 6);
        Check.refused("no glass: mark", x, x.mark(), 1);
        Check.refused("no glass: back", x, x.back(0), 1);
    }
}
