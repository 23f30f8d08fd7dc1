/** The acts of terms III, a sentence at a time: 12 moves, shakes by draws, 16 that can be undone, 3 marks, the seed. */
public final class EdgesOfActsTest {
    private static final String SMALL = "glass days 5 places 3 colours 2 reach 0"
        + ";person p sure buys first likes ab keeps 3 wears 1 takes no;stay p 0 to 4";

    public static void main(String[] args) {
        moveAtEdges();
        twelveMoves();
        toldMovesBeside();
        roomAgain();
        shakesAreMoves();
        draws();
        seedWraps();
        narrowGlass();
        seedCall();
        seedIsNoAct();
        kindsChanged();
        habitsChanged();
        keepsChanged();
        otherActsAreNoMoves();
        nothingToUndo();
        undoneInTurn();
        sixteenAreKept();
        keptAroundAndAround();
        refusedActsAreNotKept();
        undoOfSeed();
        undoAndMarks();
        threeMarks();
        backToMarks();
        nothingToUndoBehindBack();
        marksStay();
        marksOfOneState();
        newGlassForgets();
        Check.end();
    }

    private static BrushGlass small() {
        return Check.of(SMALL);
    }

    private static BrushGlass withMoves(int count) {
        BrushGlass x = small();
        for (int i = 0; i < count; i++) {
            Check.fine("move " + (i + 1), x, x.move(i % 5, 0, 1));
        }
        return x;
    }

    private static void moveAtEdges() {
        Check.on("MOVE (one more, behind those of that day)");
        BrushGlass x = small();
        Check.fine("move on the first day", x, x.move(0, 0, 2));
        Check.due("rows", Edges.rows(x), "--0 --0 --0 1-- 1--");
        Check.fine("move on the last day, the greater place first", x, x.move(4, 2, 0));
        Check.due("rows", Edges.rows(x), "--0 --0 --0 1-- --1");
        Check.fine("move of nothing", x, x.move(2, 0, 1));
        Check.due("rows", Edges.rows(x), "--0 --0 --0 1-- --1");
        Check.due("MOVES NOW", x.size(5), 3);
        Check.due("ACTS", x.size(9), 3);
    }

    private static void twelveMoves() {
        Check.on("12 MOVES by ACTS at most");
        BrushGlass x = withMoves(12);
        Check.due("MOVES NOW", x.size(5), 12);
        Edges.denied("a thirteenth on day", x, 3, day -> x.move(day, 0, 1), 0, 2, 4);
        String before = Edges.all(x);
        Check.refused("a thirteenth by a shake", x, x.shake(), 3);
        Check.due("all behind it, no draw too", Edges.all(x), before);
        Check.on("move: false: 1 (places, unlike); 2 (day); 3");
        Check.refused("alike places without room", x, x.move(0, 1, 1), 1);
        Check.refused("no such day without room", x, x.move(5, 0, 1), 2);
    }

    private static void toldMovesBeside() {
        Check.on("12 MOVES by ACTS, beside the 10 that are told");
        BrushGlass x = Check.of(SMALL + ";moves 1 0,1".repeat(10));
        Check.due("MOVES NOW", x.size(5), 10);
        for (int i = 0; i < 12; i++) {
            Check.fine("move " + (i + 1), x, x.move(1, 0, 1));
        }
        Check.due("MOVES NOW", x.size(5), 22);
        Check.due("rows by twenty-two", Edges.row(x, 1), "0--");
        Check.refused("a thirteenth", x, x.move(1, 0, 1), 3);
        Check.due("MOVES NOW", x.size(5), 22);
    }

    private static void roomAgain() {
        Check.on("12 MOVES by ACTS: what is undone, or gone back behind, takes no room");
        BrushGlass x = withMoves(11);
        Check.fine("mark", x, x.mark(), 0);
        Check.fine("the twelfth", x, x.move(0, 1, 2));
        Check.refused("a thirteenth", x, x.move(0, 1, 2), 3);
        Check.fine("undo", x, x.undo());
        Check.fine("the twelfth again", x, x.move(0, 1, 2));
        Check.refused("a thirteenth", x, x.move(0, 1, 2), 3);
        Check.fine("back(0)", x, x.back(0));
        Check.due("MOVES NOW", x.size(5), 11);
        Check.fine("the twelfth once more", x, x.shake() >= 0);
        Check.refused("a thirteenth", x, x.shake(), 3);
    }

    private static void shakesAreMoves() {
        Check.on("SHAKE: a MOVE of that place and the next one, of 12 MOVES by ACTS");
        BrushGlass x = small();
        for (int i = 0; i < 12; i++) {
            int seed = x.size(8);
            int first = (75 * seed + 74) % 65537;
            int second = (75 * first + 74) % 65537;
            Check.fine("shake " + (i + 1), x, x.shake(), 100 * (first % 5) + second % 2);
            Check.due("SEED", x.size(8), second);
            Check.due("MOVES NOW", x.size(5), i + 1);
            Check.due("ACTS", x.size(9), i + 1);
        }
        int seed = x.size(8);
        Check.refused("shake 13", x, x.shake(), 3);
        Check.due("SEED stays", x.size(8), seed);
        Check.refused("move 13", x, x.move(0, 0, 1), 3);
    }

    private static void draws() {
        Check.on("the first mod days, the second mod places less 1: a MOVE of that place and the next one");
        BrushGlass x = small();
        // 74 mod 5, 5624 mod 2
        Check.fine("shake", x, x.shake(), 400);
        Check.due("places 0 and 1 on day 4", Edges.rows(x), "0-- 0-- 0-- 1-- -1-");
        BrushGlass y = small();
        y.seed(1);
        // 149 mod 5, 11249 mod 2
        Check.fine("shake", y, y.shake(), 401);
        y.move(4, 0, 1);
        Check.due("places 1 and 2, then 0 and 1", Edges.rows(y), "0-- 0-- 0-- 1-- -1-");
        BrushGlass wide = Check.of(SMALL.replace("days 5", "days 30").replace("places 3", "places 8"));
        // 75 times 2 and 74 is 224: mod 30 is 14; 16874 mod 7 is 4
        wide.seed(2);
        Check.fine("shake of 30 days and 8 places", wide, wide.shake(), 1404);
        // 75 times 65 and 74 is 4949: mod 30 is 29; 371249 less 5 times 65537 is 43564: mod 7 is 3
        wide.seed(65);
        Check.fine("shake on the last day", wide, wide.shake(), 2903);
        int last = -1;
        for (int seed = 0; seed < 100 && last < 0; seed++) {
            int second = (75 * ((75 * seed + 74) % 65537) + 74) % 65537;
            last = second % 7 == 6 ? seed : -1;
        }
        wide.seed(last);
        Check.due("the last pair of places", wide.shake() % 100, 6);
    }

    private static void seedWraps() {
        Check.on("SEED becomes (75 times SEED and 74) mod 65,537");
        // SEED, then by one draw and by two
        int[][] due = {{0, 74, 5624}, {872, 65474, 60886}, {873, 12, 974}, {45438, 0, 74}, {65535, 65461, 59911}, {65536, 65536, 65536}};
        for (int[] seeds : due) {
            BrushGlass x = small();
            Check.fine("seed(" + seeds[0] + ")", x, x.seed(seeds[0]));
            Check.fine("shake by " + seeds[0], x, x.shake(), 100 * (seeds[1] % 5) + seeds[2] % 2);
            Check.due("SEED behind " + seeds[0], x.size(8), seeds[2]);
        }
    }

    private static void narrowGlass() {
        Check.on("the second mod places less 1: of two places there is one pair");
        BrushGlass x = Check.of(SMALL.replace("places 3", "places 2").replace("days 5 ", "days 2 ").replace("0 to 4", "0 to 1"));
        for (int seed : new int[] {0, 1, 2, 3, 65536}) {
            x.seed(seed);
            Check.fine("shake by " + seed, x, x.shake(), 100 * (((75L * seed + 74) % 65537) % 2));
        }
    }

    private static void seedCall() {
        Check.on("seed: false: 1 (no GLASS); 2 (0 .. 65,536)");
        BrushGlass x = small();
        Check.fine("seed(0)", x, x.seed(0));
        Check.due("SEED", x.size(8), 0);
        Check.fine("seed(65536)", x, x.seed(65536));
        Check.due("SEED", x.size(8), 65536);
        Edges.denied("seed", x, 2, x::seed, Edges.outside(0, 65536));
        BrushGlass none = new BrushGlass();
        Check.refused("no glass: seed(0)", none, none.seed(0), 1);
        Check.refused("no glass: seed(-1)", none, none.seed(-1), 1);
        Check.refused("no glass: seed(65537)", none, none.seed(65537), 1);
    }

    private static void seedIsNoAct() {
        Check.on("SEED (no ACT)");
        BrushGlass x = small();
        for (int seed = 0; seed < 20; seed++) {
            Check.fine("seed(" + seed + ")", x, x.seed(seed));
        }
        Check.fine("seed of what it is", x, x.seed(19));
        Check.due("ACTS", x.size(9), 0);
        Check.refused("undo", x, x.undo(), 6);
        Check.due("SEED", x.size(8), 19);
    }

    private static void kindsChanged() {
        Check.on("KIND: true; false: 1 (person, none such); 5 (he is that)");
        BrushGlass x = small();
        for (int kind : new int[] {3, 2, 1, 0}) {
            Check.fine("kind(0, " + kind + ")", x, x.kind(0, kind));
            Check.due("KIND NOW", x.person(0, 0), kind);
            Edges.denied("kind he is", x, 5, v -> x.kind(0, v), kind);
        }
        Edges.denied("kind", x, 1, kind -> x.kind(0, kind), Edges.outside(0, 3));
        Edges.denied("kind of", x, 1, p -> x.kind(p, 1), Edges.outside(0, 0));
        Edges.denied("kind he is, of", x, 1, p -> x.kind(p, 0), Edges.outside(0, 0));
    }

    private static void habitsChanged() {
        Check.on("HABIT, likewise");
        BrushGlass x = small();
        for (int habit : new int[] {2, 1, 0}) {
            Check.fine("habit(0, " + habit + ")", x, x.habit(0, habit));
            Check.due("HABIT NOW", x.person(0, 1), habit);
            Edges.denied("habit he has", x, 5, v -> x.habit(0, v), habit);
        }
        Edges.denied("habit", x, 1, habit -> x.habit(0, habit), Edges.outside(0, 2));
        Edges.denied("habit of", x, 1, p -> x.habit(p, 1), Edges.outside(0, 0));
        Edges.denied("habit he has, of", x, 1, p -> x.habit(p, 0), Edges.outside(0, 0));
    }

    private static void keepsChanged() {
        Check.on("KEEPS: true; false: 1; 2 (3 .. 30); 5");
        BrushGlass x = small();
        Check.fine("keep(0, 30)", x, x.keep(0, 30));
        Check.due("keeps NOW", x.person(0, 2), 30);
        Edges.denied("keep so", x, 5, days -> x.keep(0, days), 30);
        Check.fine("keep(0, 3)", x, x.keep(0, 3));
        Check.due("keeps NOW", x.person(0, 2), 3);
        Edges.denied("keep so", x, 5, days -> x.keep(0, days), 3);
        Edges.denied("keep", x, 2, days -> x.keep(0, days), Edges.outside(3, 30));
        Edges.denied("keep of", x, 1, p -> x.keep(p, 4), Edges.outside(0, 0));
        Edges.denied("keep so of", x, 1, p -> x.keep(p, 3), Edges.outside(0, 0));
        Edges.denied("keep too long of", x, 1, p -> x.keep(p, 31), Edges.outside(0, 0));
    }

    private static void otherActsAreNoMoves() {
        Check.on("12 MOVES by ACTS: other ACTS are none, and have no bound");
        BrushGlass x = small();
        for (int i = 0; i < 60; i++) {
            Check.fine("kind", x, x.kind(0, 1 + i % 3));
            Check.fine("habit", x, x.habit(0, (i + 1) % 3));
            Check.fine("keep", x, x.keep(0, 4 + i % 20));
        }
        Check.due("MOVES NOW", x.size(5), 0);
        Check.due("ACTS that can be undone", x.size(9), 16);
        for (int i = 0; i < 12; i++) {
            Check.fine("move " + i, x, x.move(0, 0, 1));
        }
    }

    private static void nothingToUndo() {
        Check.on("UNDO: true; false: 6");
        BrushGlass none = new BrushGlass();
        Check.refused("no glass: undo", none, none.undo(), 6);
        BrushGlass x = small();
        Check.refused("undo of nothing", x, x.undo(), 6);
        Check.fine("an act", x, x.move(0, 0, 1));
        Check.fine("undo", x, x.undo());
        Check.refused("undo of nothing more", x, x.undo(), 6);
        Check.due("all is as told", Edges.all(x), Edges.all(small()));
    }

    /** One act of each sort by turns; each changes something whatever was done ahead of it. */
    private static boolean act(BrushGlass x, int i) {
        switch (i % 5) {
            case 0:
                return x.kind(0, (x.person(0, 0) + 1) % 4);
            case 1:
                return x.habit(0, (x.person(0, 1) + 1) % 3);
            case 2:
                return x.keep(0, 3 + (x.person(0, 2) + 1) % 27);
            case 3:
                return x.size(5) < 12 ? x.move(i % 5, i % 2, 2) : x.kind(0, (x.person(0, 0) + 1) % 4);
            default:
                return x.size(5) < 12 ? x.shake() >= 0 : x.kind(0, (x.person(0, 0) + 1) % 4);
        }
    }

    private static String stateOf(BrushGlass x) {
        return Edges.each(9, x::size) + "/" + Edges.each(6, what -> x.person(0, what)) + "/" + Edges.rows(x);
    }

    private static void undoneInTurn() {
        Check.on("UNDO: all, SEED too, is as ahead of the latest");
        BrushGlass x = small();
        String[] before = new String[16];
        for (int i = 0; i < 16; i++) {
            before[i] = stateOf(x);
            Check.fine("act " + i, x, act(x, i));
        }
        for (int i = 15; i >= 0; i--) {
            Check.due("ACTS that can be undone", x.size(9), i + 1);
            Check.fine("undo of act " + i, x, x.undo());
            Check.due("all behind undo of act " + i, stateOf(x), before[i]);
        }
        Check.refused("undo of nothing more", x, x.undo(), 6);
    }

    private static void sixteenAreKept() {
        Check.on("(16 are kept)");
        for (int acts = 15; acts <= 18; acts++) {
            BrushGlass x = small();
            for (int i = 0; i < acts; i++) {
                Check.fine("keep", x, x.keep(0, 4 + i));
            }
            int kept = Math.min(acts, 16);
            Check.due("ACTS that can be undone, of " + acts, x.size(9), kept);
            for (int i = 0; i < kept; i++) {
                Check.fine("undo " + (i + 1) + " of " + acts, x, x.undo());
            }
            Check.refused("one more undo of " + acts, x, x.undo(), 6);
            Check.due("keeps, by " + acts, x.person(0, 2), 3 + acts - kept);
            Check.due("ACTS that can be undone", x.size(9), 0);
        }
    }

    private static void keptAroundAndAround() {
        Check.on("(16 are kept), however often acts and undoing take turns");
        BrushGlass x = small();
        String[] before = new String[200];
        int depth = 0;
        int kept = 0;
        for (int round = 0; round < 12; round++) {
            for (int i = 0; i < 7 + round; i++) {
                before[depth] = stateOf(x);
                Check.fine("act", x, act(x, i % 3));
                depth++;
                kept = Math.min(16, kept + 1);
            }
            for (int i = 0; i < 4 + round / 2; i++) {
                Check.fine("undo", x, x.undo());
                depth--;
                kept--;
                Check.due("all behind undo in round " + round, stateOf(x), before[depth]);
            }
            Check.due("ACTS that can be undone", x.size(9), kept);
        }
        while (kept > 0) {
            Check.fine("undo to the end", x, x.undo());
            depth--;
            kept--;
            Check.due("all behind undo to the end", stateOf(x), before[depth]);
        }
        Check.refused("undo of no more", x, x.undo(), 6);
    }

    private static void refusedActsAreNotKept() {
        Check.on("UNDO: as ahead of the latest: an act that is refused is none");
        BrushGlass x = small();
        x.keep(0, 9);
        x.keep(0, 9);
        x.kind(0, 0);
        x.kind(7, 0);
        x.habit(0, 9);
        x.move(0, 1, 1);
        x.move(5, 0, 1);
        x.seed(70000);
        x.back(0);
        Check.due("ACTS that can be undone", x.size(9), 1);
        Check.fine("undo", x, x.undo());
        Check.due("keeps", x.person(0, 2), 3);
        BrushGlass full = withMoves(12);
        full.move(0, 0, 1);
        full.shake();
        Check.due("ACTS that can be undone, 12 moves", full.size(9), 12);
    }

    private static void undoOfSeed() {
        Check.on("UNDO: SEED too");
        BrushGlass x = small();
        x.seed(873);
        x.shake();
        Check.due("SEED by two draws", x.size(8), 974);
        x.shake();
        x.undo();
        Check.due("SEED as ahead of the second", x.size(8), 974);
        x.undo();
        Check.due("SEED as ahead of the first", x.size(8), 873);
        x.kind(0, 1);
        x.seed(5);
        x.undo();
        Check.due("SEED as ahead of the act, though set since", x.size(8), 873);
    }

    private static void undoAndMarks() {
        Check.on("MARKS are no ACTS: UNDO leaves them");
        BrushGlass x = small();
        x.keep(0, 5);
        Check.fine("mark", x, x.mark(), 0);
        Check.due("ACTS that can be undone", x.size(9), 1);
        Check.fine("undo", x, x.undo());
        Check.due("MARKS", x.size(10), 1);
        Check.due("keeps", x.person(0, 2), 3);
        Check.fine("back(0)", x, x.back(0));
        Check.due("keeps by the mark", x.person(0, 2), 5);
    }

    private static void threeMarks() {
        Check.on("MARKS: up to 3; NONE: 1 (no GLASS); 3");
        BrushGlass none = new BrushGlass();
        Check.refused("no glass: mark", none, none.mark(), 1);
        Check.due("no glass: MARKS", none.size(10), 0);
        BrushGlass x = small();
        for (int i = 0; i < 3; i++) {
            Check.refused("back to one that isn't there yet", x, x.back(i), 1);
            Check.fine("mark", x, x.mark(), i);
            Check.due("MARKS", x.size(10), i + 1);
        }
        Check.refused("a fourth mark", x, x.mark(), 3);
        Check.refused("a fifth mark", x, x.mark(), 3);
        Check.due("MARKS", x.size(10), 3);
        Edges.denied("back", x, 1, x::back, Edges.outside(0, 2));
    }

    private static void backToMarks() {
        Check.on("All is as by a MARK");
        BrushGlass x = small();
        String[] by = new String[3];
        for (int i = 0; i < 3; i++) {
            for (int j = 0; j < 5; j++) {
                act(x, j);
            }
            by[i] = stateOf(x);
            Check.fine("mark", x, x.mark(), i);
        }
        act(x, 0);
        act(x, 3);
        for (int mark : new int[] {0, 2, 1, 1, 0}) {
            Check.fine("back(" + mark + ")", x, x.back(mark));
            Check.due("all by mark " + mark, stateOf(x), by[mark]);
            act(x, 2);
            x.seed(99);
        }
        Check.refused("a fourth mark", x, x.mark(), 3);
        Check.fine("back(2)", x, x.back(2));
        Check.due("the third is as it was", stateOf(x), by[2]);
    }

    private static void nothingToUndoBehindBack() {
        Check.on("gone back to one, nothing can be undone");
        BrushGlass x = small();
        x.keep(0, 5);
        x.mark();
        x.keep(0, 6);
        Check.due("ACTS that can be undone", x.size(9), 2);
        x.back(0);
        Check.due("ACTS that can be undone", x.size(9), 0);
        Check.refused("undo", x, x.undo(), 6);
        Check.due("keeps", x.person(0, 2), 5);
        x.keep(0, 7);
        Check.due("ACTS that can be undone", x.size(9), 1);
        Check.fine("undo", x, x.undo());
        Check.due("keeps", x.person(0, 2), 5);
        Check.refused("undo behind that", x, x.undo(), 6);
        Check.on("back: false: 1: all is as it was, and can be undone");
        x.keep(0, 8);
        Check.refused("back(1)", x, x.back(1), 1);
        Check.due("ACTS that can be undone", x.size(9), 1);
    }

    private static void marksStay() {
        Check.on("(all MARKS stay)");
        BrushGlass x = small();
        x.mark();
        x.keep(0, 5);
        x.mark();
        Check.fine("back to the first", x, x.back(0));
        Check.due("MARKS", x.size(10), 2);
        Check.fine("the third mark", x, x.mark(), 2);
        Check.fine("back to the second", x, x.back(1));
        Check.due("keeps", x.person(0, 2), 5);
        Check.fine("back to the third", x, x.back(2));
        Check.due("keeps", x.person(0, 2), 3);
        Check.due("MARKS", x.size(10), 3);
    }

    private static void marksOfOneState() {
        Check.on("All is as by a MARK: moves and SEED too, though the MARK is older than an UNDO");
        BrushGlass x = withMoves(3);
        x.seed(12);
        x.mark();
        x.undo();
        x.undo();
        x.seed(13);
        Check.due("MOVES NOW", x.size(5), 1);
        x.back(0);
        Check.due("MOVES NOW", x.size(5), 3);
        Check.due("SEED", x.size(8), 12);
        Check.on("All is as by a MARK: its moves, though others were made where they were undone");
        BrushGlass y = small();
        y.move(0, 0, 2);
        y.move(2, 2, 1);
        Check.due("rows", Edges.rows(y), "--0 --0 -0- 1-- 1--");
        y.mark();
        y.undo();
        y.undo();
        y.move(1, 0, 1);
        y.move(4, 0, 2);
        Check.due("rows by others", Edges.rows(y), "0-- -0- -0- 1-- --1");
        y.back(0);
        Check.due("rows by the mark", Edges.rows(y), "--0 --0 -0- 1-- 1--");
    }

    private static void newGlassForgets() {
        Check.on("(SEED 0; nothing to undo, no MARKS)");
        BrushGlass x = withMoves(12);
        x.seed(12);
        x.mark();
        x.mark();
        x.mark();
        Check.feed(x, SMALL);
        Check.fine("glass", x, x.glass(SMALL.length()), 1);
        Check.due("all is as in a new object", Edges.all(x), Edges.all(small()));
        Check.refused("undo", x, x.undo(), 6);
        Check.refused("back(0)", x, x.back(0), 1);
        for (int i = 0; i < 12; i++) {
            Check.fine("move", x, x.move(0, 0, 1));
        }
        Check.fine("mark", x, x.mark(), 0);
    }
}
