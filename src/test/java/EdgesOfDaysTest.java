import java.util.NoSuchElementException;

/** Terms II, a sentence at a time: who comes, buys, throws away, moves, uses, goes; the glass that is full. */
public final class EdgesOfDaysTest {
    public static void main(String[] args) {
        numbersAsBought();
        whoComesBuys();
        whoComesPutsBack();
        stayOfOneDay();
        stayBehindStay();
        daysHeKeepsIt();
        keepsOrMore();
        throwsAwayOnlyHere();
        comersAheadOfThrowers();
        throwsAwayAheadOfMoves();
        movesOfADay();
        nothingIsExchanged();
        whoGoes();
        firstFreePlace();
        noPlaceIsFree();
        outOfTheCupboard();
        goesOutOfTheCupboard();
        thrownOutOfTheCupboard();
        buysFirst();
        buysUnlike();
        buysRare();
        notInTheGlass();
        usesSure();
        usesByColour();
        usesByPlace();
        putLast();
        usesMessy();
        usesInTheCupboard();
        worn();
        sharedUses();
        eveningsBehindUses();
        alikePairs();
        mostOfAll();
        Check.end();
    }

    private static String glass(int days, int places, String... lines) {
        return "glass days " + days + " places " + places + " colours 3 reach 0;" + String.join(";", lines);
    }

    private static String who(String name, String kind, String habit, String order, int keeps, String takes) {
        return "person " + name + " " + kind + " buys " + habit + " likes " + order + " keeps " + keeps + " wears 1 takes " + takes;
    }

    private static String sure(String name, String takes) {
        return who(name, "sure", "first", "a", 30, takes);
    }

    private static String spots(BrushGlass x, int p) {
        return Edges.each(x.size(0), day -> x.place(day, p));
    }

    private static String uses(BrushGlass x, int p) {
        return Edges.each(x.size(0), day -> x.uses(day, p));
    }

    private static void numbersAsBought() {
        Check.on("BRUSHES have numbers as they are bought; people always by numbers");
        BrushGlass x = Check.of(glass(4, 3, sure("p", "no"), sure("q", "no"), sure("r", "no"),
            "stay r 0 to 3", "stay q 0 to 3", "stay p 1 to 3"));
        Check.due("rows", Edges.rows(x), "01- 012 012 012");
        Check.due("whose", Edges.each(3, b -> x.brush(b, 0)), "1 2 0");
        Check.due("bought on", Edges.each(3, b -> x.brush(b, 2)), "0 0 1");
        Check.refused("brush(3, 0)", x, x.brush(3, 0), 1);
    }

    private static void whoComesBuys() {
        Check.on("who comes (a stay begins): if he has none, he buys one");
        BrushGlass x = Check.of(glass(4, 2, sure("p", "no"), sure("q", "no"), "stay p 3 to 3"));
        Check.due("rows", Edges.rows(x), "-- -- -- 0-");
        Check.due("spots of p", spots(x, 0), "-2 -2 -2 0");
        Check.due("spots of q, who never comes", spots(x, 1), "-2 -2 -2 -2");
        Check.due("brushes", x.brushes(), 1);
        BrushGlass nobody = Check.of(glass(2, 2, sure("p", "no")));
        Check.fine("brushes of nobody", nobody, nobody.brushes(), 0);
        Check.refused("brush(0, 0) of nobody", nobody, nobody.brush(0, 0), 1);
        Check.due("rows of nobody", Edges.rows(nobody), "-- --");
    }

    private static void whoComesPutsBack() {
        Check.on("if he took it along, or it is in the CUPBOARD, he puts it back");
        BrushGlass x = Check.of(glass(6, 2, sure("p", "yes"), sure("q", "no"),
            "stay p 0 to 1", "stay p 4 to 5", "stay q 2 to 3"));
        Check.due("rows", Edges.rows(x), "0- 0- 1- 1- 10 10");
        Check.due("spots of p", spots(x, 0), "0 0 9 9 1 1");
        Check.on("what is left in the glass stays where it is when he comes");
        BrushGlass y = Check.of(glass(4, 3, sure("p", "no"), "stay p 0 to 0", "stay p 2 to 3", "moves 1 0,2"));
        Check.due("rows", Edges.rows(y), "0-- --0 --0 --0");
        Check.due("brushes", y.brushes(), 1);
    }

    private static void stayOfOneDay() {
        Check.on("a stay begins, and ends, on one day");
        BrushGlass x = Check.of(glass(3, 2, sure("p", "yes"), "stay p 1 to 1"));
        Check.due("rows", Edges.rows(x), "-- 0- --");
        Check.due("spots", spots(x, 0), "-2 0 9");
        Check.due("uses", uses(x, 0), "-2 0 -2");
        Check.due("here", Edges.each(3, x::here), "0 1 0");
        BrushGlass ends = Check.of(glass(3, 2, sure("p", "no"), sure("q", "no"), "stay p 0 to 0", "stay q 2 to 2"));
        Check.due("here on the first day and the last", Edges.each(3, ends::here), "1 0 2");
    }

    private static void stayBehindStay() {
        Check.on("5. who goes takes his along; 1. who comes puts it back: also from a day to the next");
        BrushGlass x = Check.of(glass(3, 3, sure("p", "yes"), "stay p 0 to 0", "stay p 1 to 1", "stay p 2 to 2", "moves 0 0,2"));
        Check.due("rows", Edges.rows(x), "--0 0-- 0--");
        BrushGlass y = Check.of(glass(3, 3, sure("p", "no"), "stay p 0 to 0", "stay p 1 to 2", "moves 0 0,2"));
        Check.due("rows of one who leaves it", Edges.rows(y), "--0 --0 --0");
    }

    private static void daysHeKeepsIt() {
        Check.on("who is here and has had his for so many days as he keeps it throws it away, and buys one");
        BrushGlass x = Check.of(glass(8, 2, who("p", "sure", "first", "a", 3, "no"), "stay p 0 to 7"));
        Check.due("rows", Edges.rows(x), "0- 0- 0- 1- 1- 1- 2- 2-");
        Check.due("bought on", Edges.each(3, b -> x.brush(b, 2)), "0 3 6");
        Check.due("thrown away on", Edges.each(3, b -> x.brush(b, 3)), "3 6 -2");
        BrushGlass last = Check.of("glass days 30 places 2 colours 1 reach 0;" + who("p", "sure", "first", "a", 29, "no")
            + ";stay p 0 to 29");
        Check.due("kept for 29 days: brushes", last.brushes(), 2);
        Check.due("thrown away on the last day", last.brush(0, 3), 29);
        Check.due("bought on the last day", last.brush(1, 2), 29);
        Check.fine("keep(0, 30)", last, last.keep(0, 30));
        Check.due("kept for 30 days: brushes", last.brushes(), 1);
        Check.due("never thrown away", last.brush(0, 3), -2);
    }

    private static void keepsOrMore() {
        Check.on("for so many days as he keeps it, or more");
        BrushGlass x = Check.of(glass(9, 2, who("p", "sure", "first", "a", 4, "yes"), "stay p 0 to 0", "stay p 3 to 3", "stay p 8 to 8"));
        Check.due("rows", Edges.rows(x), "0- -- -- 0- -- -- -- -- 1-");
        Check.due("thrown away on", x.brush(0, 3), 8);
        Check.due("spots", spots(x, 0), "0 9 9 0 9 9 9 9 0");
    }

    private static void throwsAwayOnlyHere() {
        Check.on("who is here .. throws it away: who isn't here leaves it");
        BrushGlass x = Check.of(glass(9, 2, who("p", "sure", "first", "a", 3, "no"), "stay p 0 to 1", "stay p 6 to 6"));
        Check.due("rows", Edges.rows(x), "0- 0- 0- 0- 0- 0- 1- 1- 1-");
        Check.due("thrown away on", Edges.each(2, b -> x.brush(b, 3)), "6 -2");
    }

    private static void comersAheadOfThrowers() {
        Check.on("1. who comes; 2. who throws away: all of 1 ahead of 2");
        BrushGlass x = Check.of(glass(5, 2, who("p", "sure", "first", "a", 3, "no"), sure("q", "no"), sure("r", "no"),
            "stay p 0 to 4", "stay q 0 to 4", "stay r 3 to 4"));
        Check.due("the place that p frees is p's again", Edges.rows(x), "01 01 01 31 31");
        Check.due("r found none", spots(x, 2), "-2 -2 -2 8 8");
        Check.due("r bought ahead of p", x.brush(2, 0), 2);
        Check.on("his place is free when he buys");
        BrushGlass y = Check.of(glass(4, 3, who("p", "sure", "unlike", "ab", 3, "no"), "stay p 0 to 3", "moves 1 0,2"));
        Check.due("the first free place, not where the old one stood", Edges.rows(y), "0-- --0 --0 1--");
        Check.due("the colour of the old one is in the glass no more", y.brush(1, 1), 0);
    }

    private static void throwsAwayAheadOfMoves() {
        Check.on("2. throws away, buys; 3. MOVES of that day");
        BrushGlass x = Check.of(glass(5, 3, who("p", "sure", "first", "a", 3, "no"), "stay p 0 to 4", "moves 3 0,1"));
        Check.due("rows", Edges.rows(x), "0-- 0-- 0-- -1- -1-");
    }

    private static void movesOfADay() {
        Check.on("3. MOVES of that day, as they are told, then those by ACTS");
        BrushGlass x = Check.of(glass(3, 3, sure("p", "no"), "stay p 0 to 2", "moves 2 1,2", "moves 1 0,1", "moves 1 1,2"));
        Check.due("rows", Edges.rows(x), "0-- --0 -0-");
        x.move(1, 2, 0);
        Check.due("rows with an act's", Edges.rows(x), "0-- 0-- 0--");
        x.move(1, 0, 1);
        Check.due("rows with another act's behind it", Edges.rows(x), "0-- -0- --0");
        Check.on("MOVES of the first day, and of the last");
        BrushGlass y = Check.of(glass(3, 3, sure("p", "no"), "stay p 0 to 2", "moves 0 0,1", "moves 2 1,2"));
        Check.due("rows", Edges.rows(y), "-0- -0- --0");
    }

    private static void nothingIsExchanged() {
        Check.on("what stands in two places is exchanged (nothing is exchanged, too)");
        BrushGlass x = Check.of(glass(3, 4, sure("p", "no"), sure("q", "no"), "stay p 0 to 2", "stay q 0 to 2",
            "moves 1 2,3", "moves 2 3,0"));
        Check.due("rows", Edges.rows(x), "01-- 01-- -1-0");
        Check.due("spots of p", spots(x, 0), "0 0 3");
        x.move(0, 1, 0);
        Check.due("two brushes", Edges.rows(x), "10-- 10-- -0-1");
        Check.due("spots of q", spots(x, 1), "0 0 3");
    }

    private static void whoGoes() {
        Check.on("5. who goes (a stay ends) takes his along, if he does that; else it stays");
        BrushGlass x = Check.of(glass(4, 3, sure("p", "yes"), sure("q", "no"), "stay p 0 to 1", "stay q 0 to 1"));
        Check.due("rows", Edges.rows(x), "01- 01- -1- -1-");
        Check.due("spots of p: in the evening it is there yet", spots(x, 0), "0 0 9 9");
        Check.due("spots of q", spots(x, 1), "1 1 1 1");
        BrushGlass last = Check.of(glass(2, 2, sure("p", "yes"), "stay p 1 to 1"));
        Check.due("who goes on the last day", spots(last, 0), "-2 0");
    }

    private static void firstFreePlace() {
        Check.on("Who buys, or puts one back, puts it into the first place that is free");
        BrushGlass x = Check.of(glass(3, 4, sure("p", "yes"), sure("q", "no"), sure("r", "no"), sure("s", "no"),
            "stay p 0 to 0", "stay q 0 to 0", "stay r 1 to 1", "stay p 2 to 2", "stay s 2 to 2"));
        Check.due("rows", Edges.rows(x), "01-- 21-- 2103");
        Check.due("many", Edges.each(3, x::many), "2 2 4");
    }

    private static void noPlaceIsFree() {
        Check.on("if none is, it is in the CUPBOARD");
        BrushGlass x = Check.of(glass(3, 2, sure("p", "no"), sure("q", "no"), sure("r", "no"),
            "stay p 0 to 2", "stay q 1 to 2", "stay r 2 to 2"));
        Check.due("rows: the last place is taken, then none is free", Edges.rows(x), "0- 01 01");
        Check.due("spots of q", spots(x, 1), "-2 1 1");
        Check.due("spots of r", spots(x, 2), "-2 -2 8");
        Check.due("many", Edges.each(3, x::many), "1 2 2");
        Check.on("The first EVENING in which one is in the CUPBOARD; -2");
        Check.fine("full", x, x.full(), 2);
        x.kind(2, 3);
        Check.fine("full with a messy one", x, x.full(), 2);
        BrushGlass first = Check.of(glass(2, 2, sure("p", "no"), sure("q", "no"), sure("r", "yes"),
            "stay p 0 to 0", "stay q 0 to 0", "stay r 0 to 0"));
        Check.fine("full on the first day", first, first.full(), 0);
        BrushGlass lasting = Check.of(glass(3, 2, sure("p", "no"), sure("q", "no"), sure("r", "no"),
            "stay p 0 to 0", "stay q 0 to 0", "stay r 0 to 0"));
        Check.fine("full on all days", lasting, lasting.full(), 0);
        BrushGlass never = Check.of(glass(2, 2, sure("p", "no"), sure("q", "no"), "stay p 0 to 1", "stay q 0 to 1"));
        Check.fine("as many as places", never, never.full(), -2);
    }

    private static void outOfTheCupboard() {
        Check.on("it is in the CUPBOARD: only who comes puts it back, and only if a place is free");
        BrushGlass x = Check.of(glass(7, 2, sure("p", "yes"), sure("q", "yes"), sure("r", "no"),
            "stay p 0 to 1", "stay q 0 to 4", "stay r 0 to 2", "stay p 3 to 4", "stay r 4 to 4", "stay r 5 to 6"));
        Check.due("rows", Edges.rows(x), "01 01 -1 01 01 2- 2-");
        Check.due("spots of r, who comes on 0, 4 and 5", spots(x, 2), "8 8 8 8 8 0 0");
        Check.due("spots of p", spots(x, 0), "0 0 9 0 0 9 9");
        Check.due("brushes", x.brushes(), 3);
    }

    private static void goesOutOfTheCupboard() {
        Check.on("who goes takes his along, out of the CUPBOARD too; else it stays in it");
        BrushGlass x = Check.of(glass(4, 2, sure("p", "no"), sure("q", "no"), sure("r", "yes"), sure("s", "no"),
            "stay p 0 to 3", "stay q 0 to 3", "stay r 1 to 2", "stay s 1 to 1"));
        Check.due("spots of r", spots(x, 2), "-2 8 8 9");
        Check.due("spots of s", spots(x, 3), "-2 8 8 8");
        Check.due("rows", Edges.rows(x), "01 01 01 01");
        BrushGlass y = Check.of(glass(4, 2, sure("p", "yes"), sure("q", "no"), sure("r", "yes"),
            "stay p 0 to 1", "stay q 0 to 3", "stay r 0 to 0", "stay r 3 to 3"));
        Check.due("spots of r, put back from along", spots(y, 2), "8 9 9 0");
    }

    private static void thrownOutOfTheCupboard() {
        Check.on("who has his in the CUPBOARD for so many days throws it away, too");
        BrushGlass x = Check.of(glass(5, 2, sure("p", "yes"), sure("q", "no"), who("r", "sure", "first", "b", 3, "no"),
            "stay p 0 to 0", "stay q 0 to 4", "stay r 0 to 4"));
        Check.due("rows", Edges.rows(x), "01 -1 -1 31 31");
        Check.due("spots of r", spots(x, 2), "8 8 8 0 0");
        Check.due("thrown away on", x.brush(2, 3), 3);
    }

    /** The colour that the last one buys, behind those whose orders are told, in a glass of so many places. */
    private static int bought(int places, String habit, String order, String... ahead) {
        StringBuilder people = new StringBuilder();
        StringBuilder stays = new StringBuilder();
        for (int i = 0; i < ahead.length; i++) {
            people.append(sure("p" + (char) ('a' + i), "no").replace("likes a", "likes " + ahead[i])).append(';');
            stays.append(";stay p").append((char) ('a' + i)).append(" 0 to 0");
        }
        String text = glass(2, places, people + who("q", "sure", habit, order, 3, "no") + stays + ";stay q 1 to 1");
        return Check.of(text).brush(ahead.length, 1);
    }

    private static void buysFirst() {
        Check.on("first: the first colour of his ORDER");
        Check.due("none is there", bought(4, "first", "ba"), 1);
        Check.due("all are of it", bought(4, "first", "ba", "b", "b"), 1);
    }

    private static void buysUnlike() {
        Check.on("unlike: the first of these that no BRUSH in the glass has, if there is one, else the first");
        Check.due("none is there", bought(4, "unlike", "ba"), 1);
        Check.due("the first is there", bought(4, "unlike", "ba", "b"), 0);
        Check.due("others are there", bought(4, "unlike", "ba", "c", "a"), 1);
        Check.due("the last one alone isn't", bought(4, "unlike", "bac", "a", "b"), 2);
        Check.due("all are", bought(4, "unlike", "bac", "a", "c", "b"), 1);
        Check.due("all are, the first most", bought(6, "unlike", "ba", "b", "b", "a"), 1);
        Check.due("he likes one", bought(4, "unlike", "c", "c"), 2);
    }

    private static void buysRare() {
        Check.on("rare: that of these of which fewest are in the glass, the first such");
        Check.due("none is there", bought(4, "rare", "ba"), 1);
        Check.due("one of each", bought(4, "rare", "cab", "a", "b", "c"), 2);
        Check.due("the last is rarer by one", bought(8, "rare", "cab", "a", "a", "b", "c", "c"), 1);
        Check.due("two are alike rare", bought(8, "rare", "cba", "a", "b", "c", "c"), 1);
        Check.due("he likes one", bought(4, "rare", "c", "c", "c"), 2);
    }

    private static void notInTheGlass() {
        Check.on("in the glass: what is in the CUPBOARD, or along, isn't");
        Check.due("unlike: b is in the cupboard", bought(2, "unlike", "ba", "a", "c", "b"), 1);
        Check.due("rare: b is in the cupboard", bought(2, "rare", "ba", "a", "c", "b"), 1);
        BrushGlass x = Check.of(glass(2, 2, sure("p", "yes"), who("q", "sure", "unlike", "ab", 3, "no"),
            who("r", "sure", "rare", "ab", 3, "no"), "stay p 0 to 0", "stay q 1 to 1", "stay r 1 to 1"));
        Check.due("unlike: p's is along", x.brush(1, 1), 0);
        Check.due("rare: q's is there", x.brush(2, 1), 1);
    }

    private static void usesSure() {
        Check.on("sure: his own");
        BrushGlass x = Check.of(glass(3, 3, sure("p", "no"), sure("q", "no"), "stay p 0 to 2", "stay q 0 to 2", "moves 1 0,1", "moves 2 0,2"));
        Check.due("uses of p", uses(x, 0), "0 0 0");
        Check.due("uses of q", uses(x, 1), "1 1 1");
        Check.due("shared", x.sharedAll(), 0);
    }

    private static void usesByColour() {
        Check.on("colour: the first from the left of the colour of his own");
        BrushGlass x = Check.of(glass(4, 3, sure("p", "no"), who("q", "colour", "first", "b", 30, "no"),
            who("r", "colour", "first", "a", 30, "no"), "stay p 1 to 3", "stay q 0 to 3", "stay r 1 to 3", "moves 2 1,2", "moves 3 0,1"));
        Check.due("rows", Edges.rows(x), "0-- 012 021 201");
        Check.due("q has the only one of his", uses(x, 1), "0 0 0 0");
        Check.due("r uses p's while it stands ahead", uses(x, 2), "-2 1 2 2");
        Check.due("p uses his own", uses(x, 0), "-2 1 1 1");
    }

    private static void usesByPlace() {
        Check.on("place: what stands where he put his last; his own, if there is none such");
        BrushGlass x = Check.of(glass(4, 3, who("p", "place", "first", "a", 30, "no"), sure("q", "no"),
            "stay p 0 to 3", "stay q 0 to 3", "moves 1 0,1", "moves 2 0,2", "moves 3 1,0"));
        Check.due("rows", Edges.rows(x), "01- 10- -01 0-1");
        Check.due("uses of p", uses(x, 0), "0 1 0 0");
        Check.due("sins", x.sins(0), 1);
    }

    private static void putLast() {
        Check.on("where he put his (bought, or put back) last");
        BrushGlass along = Check.of(glass(4, 3, who("p", "place", "first", "a", 30, "yes"), sure("q", "no"),
            "stay p 0 to 0", "stay q 1 to 3", "stay p 2 to 3", "moves 3 0,1"));
        Check.due("rows", Edges.rows(along), "0-- 1-- 10- 01-");
        Check.due("put back into 1: uses", uses(along, 0), "0 -2 0 1");
        BrushGlass left = Check.of(glass(4, 3, who("p", "place", "first", "a", 30, "no"), sure("q", "no"),
            "stay p 0 to 0", "stay q 1 to 3", "stay p 2 to 3", "moves 1 0,1"));
        Check.due("rows of what is left", Edges.rows(left), "0-- 10- 10- 10-");
        Check.due("coming he puts nothing: uses", uses(left, 0), "0 -2 1 1");
        BrushGlass anew = Check.of(glass(5, 3, who("p", "place", "first", "a", 3, "no"), sure("q", "no"),
            "stay p 0 to 4", "stay q 0 to 4", "moves 1 0,1", "moves 4 0,1"));
        Check.due("rows of one bought anew", Edges.rows(anew), "01- 10- 10- 12- 21-");
        Check.due("he goes by where he put the new one: uses", uses(anew, 0), "0 1 1 2 1");
    }

    private static void usesMessy() {
        Check.on("messy: his own, and puts it into the first place that is free behind that (its own place is free then, too)");
        BrushGlass x = Check.of(glass(4, 4, sure("p", "yes"), who("q", "messy", "first", "b", 30, "no"), sure("r", "no"),
            "stay p 0 to 1", "stay q 0 to 3", "stay r 0 to 3", "moves 1 1,3"));
        Check.due("rows", Edges.rows(x), "012- 012- 1-2- 1-2-");
        Check.due("uses of q", uses(x, 1), "1 1 1 1");
        Check.due("none of others", x.sharedAll(), 0);
        BrushGlass full = Check.of(glass(2, 2, sure("p", "no"), who("q", "messy", "first", "b", 30, "no"), "stay p 0 to 1", "stay q 0 to 1"));
        Check.due("its own place alone is free", Edges.rows(full), "01 01");
        BrushGlass two = Check.of(glass(2, 4, who("p", "messy", "first", "b", 30, "no"), who("q", "messy", "first", "b", 30, "no"),
            "stay p 0 to 1", "stay q 0 to 1", "moves 1 0,3"));
        Check.due("one behind the other: p's goes to 0, q's stays", Edges.rows(two), "01-- 01--");
        two.move(1, 1, 2);
        Check.due("and q's to the next", Edges.rows(two), "01-- 01--");
        two.move(1, 0, 3);
        Check.due("p's stood in 0 again", Edges.rows(two), "01-- 01--");
        two.move(1, 0, 2);
        Check.due("p's stood in 2, q's in 0", Edges.rows(two), "01-- 10--");
    }

    private static void usesInTheCupboard() {
        Check.on("puts it, if it is in the glass; who is colour or place uses his own, if his own is in the CUPBOARD");
        String[] kinds = {"sure", "colour", "place", "messy"};
        for (String kind : kinds) {
            BrushGlass x = Check.of(glass(4, 2, sure("p", "yes"), sure("q", "no"), who("r", kind, "first", "a", 30, "no"),
                "stay p 0 to 1", "stay q 0 to 3", "stay r 0 to 3"));
            Check.due("rows with one who is " + kind, Edges.rows(x), "01 01 -1 -1");
            Check.due("uses of one who is " + kind, uses(x, 2), "2 2 2 2");
            Check.due("spots of one who is " + kind, spots(x, 2), "8 8 8 8");
            Check.due("shared with one who is " + kind, x.sharedAll(), 0);
            Check.due("wet with one who is " + kind, x.wet(2, 0) * 10 + x.wet(2, 1), 1);
            Check.due("worn by one who is " + kind, x.brush(2, 4), 4);
        }
    }

    private static void worn() {
        Check.on("WORN: by each use by as much as who uses it wears");
        BrushGlass x = Check.of(glass(3, 3, "person p sure buys first likes a keeps 30 wears 1 takes no",
            "person q colour buys first likes a keeps 30 wears 9 takes no", "stay p 0 to 2", "stay q 1 to 1"));
        Check.due("p's, by himself thrice and by q once", x.brush(0, 4), 12);
        Check.due("q's, never used", x.brush(1, 4), 0);
        x.kind(1, 0);
        Check.due("p's by himself", x.brush(0, 4), 3);
        Check.due("q's by himself", x.brush(1, 4), 9);
    }

    private static void sharedUses() {
        Check.on("SHARED: a use of another one's");
        BrushGlass x = Check.of(glass(4, 3, sure("p", "no"), who("q", "colour", "first", "a", 30, "no"),
            who("r", "colour", "first", "a", 30, "no"), "stay p 0 to 0", "stay q 1 to 3", "stay r 2 to 2"));
        Check.due("of one who isn't here, by two, by one: shared", Edges.each(4, x::shared), "0 1 2 1");
        Check.due("sharedAll", x.sharedAll(), 4);
        Check.due("suffers", Edges.each(3, x::suffers), "4 0 0");
        Check.due("sins", Edges.each(3, x::sins), "0 3 1");
        Check.due("led(0)", x.led(0), 1);
        Check.due("led(1), who does it once", x.led(1), 2);
        BrushGlass first = Check.of(glass(2, 3, who("p", "colour", "first", "a", 30, "no"), sure("q", "no"),
            "stay p 0 to 1", "stay q 0 to 1", "moves 1 0,2"));
        Check.due("suffers of the second", Edges.each(2, first::suffers), "0 1");
        Check.due("sins of the first", Edges.each(2, first::sins), "1 0");
        Check.due("led(0), the first person", first.led(0), 0);
        first.kind(0, 0);
        Check.due("suffers NOW", Edges.each(2, first::suffers), "0 0");
        Check.due("sins NOW", Edges.each(2, first::sins), "0 0");
        first.undo();
        Check.due("sins again", Edges.each(2, first::sins), "1 0");
        Check.on("wet (used in that EVENING)");
        Check.due("wet on 0", Edges.each(3, place -> x.wet(0, place)), "1 0 0");
        Check.due("wet on 1", Edges.each(3, place -> x.wet(1, place)), "1 0 0");
        x.kind(1, 0);
        Check.due("wet on 3, as q is sure", Edges.each(3, place -> x.wet(3, place)), "0 1 0");
        Check.due("wet on 2, as q is sure", Edges.each(3, place -> x.wet(2, place)), "1 1 0");
    }

    private static void eveningsBehindUses() {
        Check.on("In the EVENING: as all stands behind 4");
        BrushGlass x = Check.of(glass(2, 3, sure("p", "yes"), who("q", "messy", "first", "b", 30, "yes"),
            "stay p 0 to 0", "stay q 0 to 1", "moves 1 0,2"));
        Check.due("p's is there though he goes, q's is where he put it", Edges.rows(x), "01- 1--");
        x.move(0, 0, 2);
        Check.due("q's goes to 0, p's is in 2 yet", Edges.rows(x), "1-0 1--");
        Check.due("colour", Edges.each(3, place -> x.colour(0, place)), "1 -2 0");
        Check.due("whose", Edges.each(3, place -> x.whose(0, place)), "1 -2 0");
        Check.due("wet", Edges.each(3, place -> x.wet(0, place)), "1 0 1");
        Check.due("many", Edges.each(2, x::many), "2 1");
    }

    private static void alikePairs() {
        Check.on("THERE: in the glass. ALIKE: pairs THERE of one colour");
        BrushGlass x = Check.of(glass(6, 3, sure("p", "yes"), sure("q", "no"), sure("r", "no"), sure("s", "no"),
            who("t", "sure", "first", "b", 30, "no"),
            "stay p 1 to 2", "stay q 2 to 2", "stay r 3 to 4", "stay s 4 to 4", "stay t 0 to 5"));
        Check.due("rows", Edges.rows(x), "0-- 01- 012 032 032 032");
        Check.due("alike", Edges.each(6, x::alike), "0 0 1 1 1 1");
        Check.due("s's is in the cupboard", x.place(4, 3), 8);
        Check.due("alikeDays", x.alikeDays(), 4);
        Check.due("notches", x.notches(), 1);
    }

    private static void mostOfAll() {
        Check.on("as many as the document leaves room for: 30 days, 8 places, 7 people who keep 3 days each");
        StringBuilder text = new StringBuilder("glass days 30 places 8 colours 6 reach 100");
        for (char name = 'a'; name <= 'g'; name++) {
            text.append(";person ").append(name).append(" messy buys rare likes abcdef keeps 3 wears 9 takes yes");
        }
        for (char name = 'a'; name <= 'g'; name++) {
            text.append(";stay ").append(name).append(" 0 to 29");
        }
        BrushGlass x = Check.of(text.toString());
        Check.due("brushes", x.brushes(), 70);
        Check.due("the last one's day", x.brush(69, 2), 27);
        Check.due("the last but seven, thrown away", x.brush(62, 3), 27);
        Check.due("the last one, worn", x.brush(69, 4), 27);
        Check.refused("brush(70, 0)", x, x.brush(70, 0), 1);
        Check.due("many", x.many(29), 7);
        Check.due("the last place is free", x.at(29, 7), -2);
        Check.due("here", x.here(29), 127);
        Check.due("most", x.most(), 7);
        boolean thrown = false;
        try {
            x.led(0);
        } catch (NoSuchElementException e) {
            thrown = true;
        }
        Check.due("led(0) of seven who all use their own throws", thrown, true);
        for (int p = 0; p < 7; p++) {
            x.kind(p, 1);
        }
        x.habit(6, 0);
        Check.due("many as the first call", Check.of(text.toString()).many(29), 7);
        Check.due("led(0), the last of seven", x.led(0), 6);
        Check.due("sins", Edges.each(7, x::sins), "0 0 0 0 0 0 30");
    }
}
