/** Terms III but the acts, a sentence at a time: seen, explained, paired, asked, said, coloured, best, drift. */
public final class EdgesOfAnswersTest {
    public static void main(String[] args) {
        peopleTold();
        mostHere();
        seeingIsRight();
        firstThatIsWrong();
        explainedOrNot();
        explainedInOrder();
        explainedBehindItsDay();
        explainedThroughBuying();
        explainedThroughUsesAndGoing();
        explainedByMost();
        explainedAnew();
        explainedByNone();
        pairingsOfNone();
        pairingsOfThose();
        pairingsByOrders();
        pairingsOfMost();
        couldAndSurely();
        askNone();
        askLeastBits();
        sayingIsTrue();
        wrongOnesByBits();
        fewestColours();
        leastNumbers();
        notchesByPowers();
        byAHabit();
        bestHabits();
        byAKind();
        bestKinds();
        driftOfNoDays();
        driftOfReach();
        driftInLowestTerms();
        driftOfMost();
        Check.end();
    }

    private static String glass(int days, int places, String... lines) {
        return "glass days " + days + " places " + places + " colours 3 reach 0;" + String.join(";", lines);
    }

    private static String who(String name, String kind, String habit, String order) {
        return "person " + name + " " + kind + " buys " + habit + " likes " + order + " keeps 30 wears 1 takes no";
    }

    private static String sure(String name, String order) {
        return who(name, "sure", "first", order);
    }

    private static void peopleTold() {
        Check.on("Of a person 0 KIND NOW, 1 HABIT NOW, 2 keeps NOW, 3 wears, 4 1 if he takes it along, 5 how many stays");
        BrushGlass x = Check.of("glass days 30 places 8 colours 6 reach 0"
            + ";person a messy buys rare likes fedcba keeps 30 wears 9 takes yes"
            + ";person b sure buys first likes f keeps 3 wears 1 takes no"
            + ";stay a 0 to 0;stay a 28 to 28;stay a 29 to 29");
        Check.due("person 0", Edges.each(6, what -> x.person(0, what)), "3 2 30 9 1 3");
        Check.due("person 1", Edges.each(6, what -> x.person(1, what)), "0 0 3 1 0 0");
        Check.on("The i-th colour of his ORDER");
        Check.due("likes of 0", Edges.each(7, i -> x.likes(0, i)), "5 4 3 2 1 0 -1");
        Check.due("likes of 1", Edges.each(2, i -> x.likes(1, i)), "5 -1");
        Check.on("Of his i-th stay 0 its first day, 1 its last");
        Check.due("first days of 0", Edges.each(4, i -> x.stay(0, i, 0)), "0 28 29 -1");
        Check.due("last days of 0", Edges.each(4, i -> x.stay(0, i, 1)), "0 28 29 -1");
        Check.refused("stay(1, 0, 0) of one who has none", x, x.stay(1, 0, 0), 1);
        BrushGlass longer = Check.of("glass days 30 places 2 colours 1 reach 0;" + sure("p", "a") + ";stay p 0 to 1;stay p 3 to 29");
        Check.due("first days", Edges.each(2, i -> longer.stay(0, i, 0)), "0 3");
        Check.due("last days", Edges.each(2, i -> longer.stay(0, i, 1)), "1 29");
    }

    private static void mostHere() {
        Check.on("The most people who are here on one day");
        BrushGlass nobody = Check.of(glass(2, 2, sure("p", "a")));
        Check.fine("most of nobody", nobody, nobody.most(), 0);
        Check.fine("here of nobody", nobody, nobody.here(0), 0);
        BrushGlass x = Check.of(glass(4, 2, sure("p", "a"), sure("q", "a"), sure("r", "a"),
            "stay p 0 to 1", "stay q 1 to 2", "stay r 3 to 3"));
        Check.fine("one goes as one comes", x, x.most(), 2);
        Check.due("here", Edges.each(4, x::here), "1 3 2 4");
        BrushGlass last = Check.of(glass(3, 2, sure("p", "a"), sure("q", "a"), "stay p 2 to 2", "stay q 2 to 2"));
        Check.fine("on the last day", last, last.most(), 2);
        BrushGlass first = Check.of(glass(3, 2, sure("p", "a"), sure("q", "a"), "stay p 0 to 0", "stay q 0 to 2"));
        Check.fine("on the first day", first, first.most(), 2);
    }

    private static void seeingIsRight() {
        Check.on("A SEEING is RIGHT if in that EVENING colours stand so");
        String house = glass(3, 3, sure("p", "a"), sure("q", "b"), "stay p 0 to 2", "stay q 1 to 1");
        BrushGlass x = Check.of(house + ";seen 0 azz;seen 1 abz;seen 2 abz;seen 2 zzz;seen 0 bzz;seen 1 aba");
        Check.due("judgeAt", Edges.each(6, x::judgeAt), "-2 -2 -2 0 0 2");
        Check.fine("judgeAt(0), which is right", x, x.judgeAt(0), -2);
        BrushGlass y = Check.of(house + ";seen 1 azz;seen 1 zbz;seen 1 abc;seen 1 bab;seen 0 aaz;seen 2 bbz");
        Check.due("the first place of them", Edges.each(6, y::judgeAt), "1 0 2 0 1 0");
    }

    private static void firstThatIsWrong() {
        Check.on("The first SEEING that isn't RIGHT; -2");
        String house = glass(2, 2, sure("p", "a"), "stay p 0 to 1");
        BrushGlass none = Check.of(house);
        Check.fine("judge without seeings", none, none.judge(), -2);
        BrushGlass right = Check.of(house + ";seen 0 az;seen 1 az");
        Check.fine("judge of right ones", right, right.judge(), -2);
        BrushGlass first = Check.of(house + ";seen 1 zz;seen 0 zz");
        Check.fine("the first as told, not by days", first, first.judge(), 0);
        BrushGlass last = Check.of(house + ";seen 1 az".repeat(5) + ";seen 0 za");
        Check.fine("the last of six", last, last.judge(), 5);
        Check.fine("its place", last, last.judgeAt(5), 0);
    }

    private static void explained(String told, String text, String due) {
        BrushGlass x = Check.of(text);
        int count = due.isEmpty() ? 0 : due.split(",").length;
        Check.fine(told + ": explains", x, x.explains(), count);
        StringBuilder got = new StringBuilder();
        for (int i = 0; i < count; i++) {
            int one = i;
            got.append(i > 0 ? "," : "").append(Edges.each(3, what -> x.explain(one, what)));
        }
        Check.due(told, got.toString(), due);
        Edges.noneSuch(told + ": explain", x, count, i -> x.explain(i, 0));
        Check.fine(told + ": explains, again", x, x.explains(), count);
    }

    private static void explainedOrNot() {
        Check.on("How many MOVES EXPLAIN all. NONE: 5 (all are RIGHT)");
        String house = glass(2, 2, sure("p", "a"), "stay p 0 to 1");
        BrushGlass none = Check.of(house);
        Check.refused("explains without seeings", none, none.explains(), 5);
        Check.refused("explain without seeings", none, none.explain(0, 0), 5);
        BrushGlass right = Check.of(house + ";seen 1 az");
        Check.refused("explains of right ones", right, right.explains(), 5);
        Check.refused("explain of right ones", right, right.explain(0, 2), 5);
        Check.on("(with which all SEEINGS are RIGHT)");
        explained("moved by the second day", house + ";seen 1 za", "0 0 1,1 0 1");
        explained("not on the first", house + ";seen 1 za;seen 0 az", "1 0 1");
        explained("on the first", house + ";seen 1 za;seen 0 za", "0 0 1");
        explained("only on the first day", house + ";seen 0 za", "0 0 1");
        explained("twice would be needed", house + ";seen 1 az;seen 0 za", "");
    }

    private static void explainedInOrder() {
        Check.on("by days, then the lesser place, then the other one");
        String four = glass(3, 4, sure("p", "a"), sure("q", "b"), sure("r", "a"), "stay p 0 to 2", "stay q 0 to 2", "stay r 0 to 2");
        explained("b and an a", four + ";seen 2 baaz", "0 0 1,1 0 1,2 0 1");
        explained("one a or the other", glass(2, 3, sure("p", "a"), sure("q", "a"), "stay p 0 to 1", "stay q 0 to 1") + ";seen 1 aza",
            "0 1 2,1 1 2");
        explained("an a from 0 or from 1 to 2", glass(2, 3, who("p", "messy", "first", "a"), who("q", "messy", "first", "a"),
            "stay p 0 to 1", "stay q 0 to 1") + ";seen 1 aza", "");
        explained("r comes into the first free place, and is moved on", glass(2, 4, sure("p", "a"), sure("q", "a"), sure("r", "b"),
            "stay p 0 to 0", "stay q 0 to 0", "stay r 1 to 1", "moves 1 2,3") + ";seen 1 aabz;seen 0 aazz", "1 2 3");
        // r comes on day 1 into the first free place: that of p, or of q, whichever was moved away
        explained("two on one day, one on another", glass(2, 4, sure("p", "a"), sure("q", "a"), sure("r", "a"),
            "stay p 0 to 0", "stay q 0 to 0", "stay r 1 to 1") + ";seen 1 aaza", "0 0 3,0 1 3,1 2 3");
        explained("the last place", four + ";seen 2 zbaa", "0 0 3,1 0 3,2 0 3");
        explained("the last two places", four + ";seen 2 abza", "0 2 3,1 2 3,2 2 3");
    }

    private static void explainedBehindItsDay() {
        Check.on("one more MOVE (behind those of its day)");
        String three = glass(2, 3, sure("p", "a"), sure("q", "b"), "stay p 0 to 1", "stay q 0 to 1", "moves 1 0,1");
        explained("behind what is told", three + ";seen 1 zab;seen 0 abz", "1 0 2");
        BrushGlass x = Check.of(three + ";seen 1 zba;seen 0 abz");
        Check.fine("explains", x, x.explains(), 0);
        x.move(1, 0, 1);
        Check.fine("behind those by acts", x, x.explains(), 1);
        Check.due("its parts", Edges.each(3, what -> x.explain(0, what)), "1 0 2");
        x.move(1, 0, 2);
        Check.refused("the act itself makes all right", x, x.explains(), 5);
    }

    private static void explainedThroughBuying() {
        Check.on("EXPLAINED: with its move, who comes later finds other places free, and buys other colours");
        String text = glass(3, 2, sure("p", "a"), who("q", "sure", "unlike", "ab"), "stay p 0 to 2", "stay q 1 to 2");
        explained("q comes into place 0", text + ";seen 2 ba", "0 0 1,1 0 1,2 0 1");
        explained("moved on the day ahead of it", text + ";seen 1 ba;seen 0 za", "0 0 1");
    }

    private static void explainedThroughUsesAndGoing() {
        Check.on("EXPLAINED: with its move, messy ones put theirs elsewhere, and who goes takes his along");
        explained("p puts his back ahead of q's, and is gone", glass(3, 3, who("p", "messy", "first", "a"), sure("q", "b"),
            "stay p 0 to 0", "stay q 0 to 2", "moves 0 0,2") + ";seen 2 azb", "0 1 2,1 1 2,2 1 2");
        explained("p's is along", glass(3, 2, sure("p", "a").replace("no", "yes"), sure("q", "b"), "stay p 0 to 0", "stay q 0 to 2")
            + ";seen 2 bz", "0 0 1,1 0 1,2 0 1");
        explained("p's is along, r's comes where it stood", glass(3, 3, sure("p", "a").replace("no", "yes"), sure("q", "b"), sure("r", "c"),
            "stay p 0 to 0", "stay q 0 to 2", "stay r 2 to 2") + ";seen 2 bcz;seen 1 bzz", "0 0 1,1 0 1");
    }

    private static void explainedByMost() {
        Check.on("EXPLAINED: by as many as there can be, with 30 days and 8 places");
        StringBuilder text = new StringBuilder("glass days 30 places 8 colours 1 reach 0");
        for (char name = 'a'; name <= 'g'; name++) {
            text.append(';').append(sure(String.valueOf(name), "a"));
        }
        for (char name = 'a'; name <= 'g'; name++) {
            text.append(";stay ").append(name).append(name == 'g' ? " 29 to 29" : " 0 to 0");
        }
        // one of six goes to the last place, and g fills the gap; or g himself is moved there from behind the six
        StringBuilder due = new StringBuilder();
        for (int day = 0; day < 29; day++) {
            for (int place = 0; place < 6; place++) {
                due.append(day).append(' ').append(place).append(" 7,");
            }
        }
        explained("six of a day", text + ";seen 29 aaaaaaza", due + "29 6 7");
        Check.on("EXPLAINED: with as many BRUSHES bought as there can be");
        BrushGlass x = Check.of(text.toString().replace("0 to 0", "0 to 29").replace("29 to 29", "0 to 29").replace("keeps 30", "keeps 3")
            + ";seen 29 aaaaaaaz".repeat(5) + ";seen 29 aaaaaaza");
        Check.due("brushes", x.brushes(), 70);
        Check.due("judge, the last of six", x.judge(), 5);
        Check.fine("explains of two that can't be both", x, x.explains(), 0);
        BrushGlass y = Check.of(text.toString().replace("0 to 0", "0 to 29").replace("29 to 29", "0 to 29").replace("keeps 30", "keeps 3")
            + ";seen 29 aaaaaaza");
        // on day 27 all buy anew, each where the last one stood or in a gap ahead of it
        Check.fine("explains", y, y.explains(), 3);
        for (int i = 0; i < 3; i++) {
            int one = i;
            Check.due("explain " + i, Edges.each(3, what -> y.explain(one, what)), (27 + i) + " 6 7");
        }
    }

    private static void explainedAnew() {
        Check.on("How many MOVES EXPLAIN all, NOW");
        BrushGlass x = Check.of(glass(3, 3, sure("p", "a"), "stay p 0 to 2") + ";seen 2 zza");
        Check.due("explain(2, 0) as the first call", x.explain(2, 0), 2);
        Check.fine("explains", x, x.explains(), 3);
        x.move(1, 0, 1);
        Check.fine("explains behind an act", x, x.explains(), 3);
        int[][] due = {{0, 0, 2}, {1, 1, 2}, {2, 1, 2}};
        for (int i = 0; i < 3; i++) {
            for (int what = 0; what < 3; what++) {
                Check.due("explain(" + i + ", " + what + ") behind an act", x.explain(i, what), due[i][what]);
            }
        }
        x.undo();
        Check.fine("explains behind undo", x, x.explains(), 3);
    }

    private static void explainedByNone() {
        Check.on("EXPLAINED: none does");
        String house = glass(2, 2, sure("p", "a"), "stay p 0 to 1");
        explained("a colour that none has", house + ";seen 1 bz", "");
        explained("more than there are", house + ";seen 1 aa", "");
        explained("none", house + ";seen 0 zz", "");
        BrushGlass x = Check.of(house + ";seen 0 zz");
        Check.fine("explains by none", x, x.explains(), 0);
        Check.refused("explain(0, 0) by none", x, x.explain(0, 0), 1);
        Check.refused("explain(0, 3) by none", x, x.explain(0, 3), 1);
    }

    private static void pairingsOfNone() {
        Check.on("PAIRINGS: ways to give each person who is here then: of none there is one way, and none to ask");
        BrushGlass x = Check.of(glass(3, 2, sure("p", "a"), "stay p 1 to 1"));
        Check.fine("pairings ahead of his coming", x, x.pairings(0), 1);
        Check.fine("pairings when he is gone", x, x.pairings(2), 1);
        Check.fine("ask ahead of his coming", x, x.ask(0), 0);
        Check.fine("ask when he is gone", x, x.ask(2), 0);
        Check.fine("could", x, x.could(2, 0), 0);
        Check.fine("surely of what stands there", x, x.surely(2, 0), -2);
        Check.due("pairings of one", x.pairings(1), 1);
        Check.due("ask of one", x.ask(1), 0);
        Check.due("could of one", x.could(1, 0), 1);
        Check.due("surely of one", x.surely(1, 0), 0);
    }

    private static void pairingsOfThose() {
        Check.on("each person who is here then, and whose BRUSH is THERE, one place where something stands");
        BrushGlass x = Check.of(glass(3, 2, sure("p", "ab"), sure("q", "ab"), sure("r", "ab"),
            "stay p 0 to 1", "stay q 0 to 0", "stay r 1 to 2"));
        Check.due("rows", Edges.rows(x), "01 01 01");
        Check.due("pairings: two; one of two, r's is in the cupboard; none", Edges.each(3, x::pairings), "2 2 1");
        Check.due("could of p", Edges.each(3, day -> x.could(day, 0)), "3 3 0");
        Check.due("could of q", Edges.each(3, day -> x.could(day, 1)), "3 0 0");
        Check.due("could of r, in the cupboard", Edges.each(3, day -> x.could(day, 2)), "0 0 0");
        Check.due("ask", Edges.each(3, x::ask), "1 1 0");
        BrushGlass gap = Check.of(glass(2, 3, sure("p", "a"), sure("q", "a"), "stay p 0 to 0", "stay q 0 to 0", "moves 0 1,2"));
        Check.due("an empty place is none's", Edges.each(2, p -> gap.could(0, p)), "5 5");
        Check.due("surely of an empty place", gap.surely(0, 1), -2);
        Check.on("PAIRINGS of an EVENING: each by what stands then");
        BrushGlass turns = Check.of(glass(3, 3, sure("p", "a"), sure("q", "b"), "stay p 0 to 2", "stay q 0 to 2", "moves 1 0,2", "moves 2 1,2"));
        Check.due("could of p", Edges.each(3, day -> turns.could(day, 0)), "1 4 2");
        Check.due("could of q", Edges.each(3, day -> turns.could(day, 1)), "2 2 4");
        Check.due("surely of place 2", Edges.each(3, day -> turns.surely(day, 2)), "-2 0 1");
        Check.due("pairings", Edges.each(3, turns::pairings), "1 1 1");
    }

    private static void pairingsByOrders() {
        Check.on("all unlike, of a colour in his ORDER");
        BrushGlass x = Check.of(glass(2, 3, sure("p", "a"), sure("q", "ba"), sure("r", "cb"),
            "stay p 0 to 0", "stay q 0 to 0", "stay r 0 to 0"));
        Check.due("each by his colour alone", x.pairings(0), 1);
        Check.due("could", Edges.each(3, p -> x.could(0, p)), "1 2 4");
        Check.due("surely", Edges.each(3, place -> x.surely(0, place)), "0 1 2");
        Check.due("ask none", x.ask(0), 0);
        BrushGlass ring = Check.of(glass(2, 3, sure("p", "ab"), sure("q", "bc"), sure("r", "ca"),
            "stay p 0 to 0", "stay q 0 to 0", "stay r 0 to 0"));
        Check.due("a ring has two", ring.pairings(0), 2);
        Check.due("could in a ring", Edges.each(3, p -> ring.could(0, p)), "3 6 5");
        Check.due("surely in a ring", Edges.each(3, place -> ring.surely(0, place)), "-2 -2 -2");
        Check.due("one is asked, the least", ring.ask(0), 1);
    }

    private static void pairingsOfMost() {
        Check.on("PAIRINGS of 7 people and 7 brushes, and with 8 places");
        StringBuilder text = new StringBuilder("glass days 2 places 8 colours 1 reach 0");
        StringBuilder stays = new StringBuilder();
        for (char name = 'a'; name <= 'g'; name++) {
            text.append(";person ").append(name).append(" sure buys first likes a keeps 30 wears 1 takes no");
            stays.append(";stay ").append(name).append(" 0 to ").append(name == 'g' ? 0 : 1);
        }
        BrushGlass x = Check.of(text.toString() + stays + ";moves 0 3,7");
        Check.due("pairings", Edges.each(2, x::pairings), "5040 5040");
        Check.due("could, the last place too", x.could(0, 6), 247);
        Check.due("ask all but the last", x.ask(0), 63);
        Check.due("ask all six", x.ask(1), 63);
    }

    private static void couldAndSurely() {
        Check.on("COULD: places that he has in some of these; SURELY: whose a place is in all");
        // q could have 0 by its colour, but then p had none
        BrushGlass x = Check.of(glass(2, 3, sure("p", "a"), sure("q", "ba"), sure("r", "bc"),
            "stay p 0 to 0", "stay q 0 to 0", "stay r 0 to 0"));
        Check.due("pairings", x.pairings(0), 2);
        Check.due("could", Edges.each(3, p -> x.could(0, p)), "1 6 6");
        Check.due("surely", Edges.each(3, place -> x.surely(0, place)), "0 -2 -2");
        Check.due("ask", x.ask(0), 2);
        BrushGlass far = Check.of(glass(2, 8, sure("p", "a"), "stay p 0 to 0", "moves 0 0,7"));
        Check.due("could at the last place", far.could(0, 0), 128);
        Check.due("surely at the last place", far.surely(0, 7), 0);
        Check.due("surely at the first", far.surely(0, 0), -2);
    }

    private static void askNone() {
        Check.on("so that one PAIRING is left: none is asked if there is but one");
        BrushGlass x = Check.of(glass(2, 2, sure("p", "a"), sure("q", "b"), "stay p 0 to 0", "stay q 0 to 0"));
        Check.fine("ask", x, x.ask(0), 0);
        Check.fine("pairings", x, x.pairings(0), 1);
    }

    private static void askLeastBits() {
        Check.on("the fewest people to ask; of like ones the least bits");
        BrushGlass two = Check.of(glass(2, 3, sure("o", "c"), sure("p", "a"), sure("q", "a"),
            "stay o 0 to 0", "stay p 0 to 0", "stay q 0 to 0"));
        Check.due("p or q: p", two.ask(0), 2);
        BrushGlass three = Check.of(glass(2, 3, sure("p", "a"), sure("q", "a"), sure("r", "a"),
            "stay p 0 to 0", "stay q 0 to 0", "stay r 0 to 0"));
        Check.due("any two of three: the first two", three.ask(0), 3);
        BrushGlass moved = Check.of(glass(2, 3, sure("p", "ab"), sure("q", "ba"), sure("r", "abc"),
            "stay p 0 to 0", "stay q 0 to 0", "stay r 0 to 0", "moves 0 1,0"));
        Check.due("rows", Edges.row(moved, 0), "102");
        Check.due("pairings, as each likes all that is there", moved.pairings(0), 6);
        Check.due("any two of three", moved.ask(0), 3);
        BrushGlass one = Check.of(glass(2, 4, sure("p", "ab"), sure("q", "ba"), sure("r", "c"), sure("s", "ab"),
            "stay p 0 to 0", "stay q 0 to 0", "stay r 0 to 0"));
        Check.due("one of two, r's is sure, s isn't here", one.ask(0), 1);
        // if v tells that his is c, u and w have one way each; u's answer alone leaves two
        BrushGlass middle = Check.of(glass(2, 3, sure("u", "a"), sure("v", "cb"), sure("w", "bc"),
            "stay u 0 to 0", "stay v 0 to 0", "stay w 0 to 0"));
        Check.due("not u, whose is known", middle.ask(0), 2);
    }

    private static void sayingIsTrue() {
        Check.on("A SAYING is TRUE if in that EVENING his BRUSH stands there");
        BrushGlass x = Check.of("glass days 3 places 2 colours 1 reach 0"
            + ";person p sure buys first likes a keeps 30 wears 1 takes yes"
            + ";person q sure buys first likes a keeps 30 wears 1 takes no"
            + ";person r sure buys first likes a keeps 30 wears 1 takes no"
            + ";stay p 0 to 1;stay q 0 to 0;stay r 0 to 1"
            + ";says p 0 0;says p 2 0;says q 2 1;says q 0 0;says r 0 1;says r 1 0;says p 1 0;says q 1 1");
        Check.due("isTrue", Edges.each(8, x::isTrue), "1 0 1 0 0 0 1 1");
        Check.fine("isTrue(1): along", x, x.isTrue(1), 0);
        BrushGlass never = Check.of(glass(2, 2, sure("p", "a"), "says p 0 0"));
        Check.fine("isTrue of one who has none", never, never.isTrue(0), 0);
    }

    private static void wrongOnesByBits() {
        Check.on("People with a SAYING that isn't TRUE, as bits");
        BrushGlass none = House.whole();
        Check.fine("wrongOnes without sayings", none, none.wrongOnes(), 0);
        BrushGlass x = House.with("says di 7 0;says ann 0 0;says bob 1 1;says di 2 1");
        Check.fine("the last person alone, twice", x, x.wrongOnes(), 8);
        BrushGlass y = House.with("says ann 0 0;says ann 0 1;says cy 1 2;says bob 0 0");
        Check.fine("one true and one not", y, y.wrongOnes(), 3);
        y.move(0, 0, 1);
        Check.fine("now the other one isn't", y, y.wrongOnes(), 3);
    }

    private static void fewestColours() {
        Check.on("FEWEST COLOURS: so that of people who are ever here on one day no two have one");
        BrushGlass nobody = Check.of(glass(2, 2, sure("p", "a"), sure("q", "a")));
        Check.fine("colours of people who are never here", nobody, nobody.colours(), 1);
        Check.due("each", Edges.each(2, nobody::colourOf), "0 0");
        BrushGlass apart = Check.of(glass(2, 2, sure("p", "a"), sure("q", "a"), "stay p 0 to 0", "stay q 1 to 1"));
        Check.fine("colours of people who never meet", apart, apart.colours(), 1);
        Check.due("each", Edges.each(2, apart::colourOf), "0 0");
        BrushGlass meet = Check.of(glass(2, 2, sure("p", "a"), sure("q", "a"), "stay p 0 to 1", "stay q 1 to 1"));
        Check.fine("colours of people who meet on the last day", meet, meet.colours(), 2);
        Check.due("each", Edges.each(2, meet::colourOf), "0 1");
        StringBuilder text = new StringBuilder("glass days 2 places 2 colours 1 reach 0");
        for (char name = 'a'; name <= 'g'; name++) {
            text.append(";person ").append(name).append(" sure buys first likes a keeps 3 wears 1 takes no");
        }
        for (char name = 'a'; name <= 'g'; name++) {
            text.append(";stay ").append(name).append(" 0 to 0");
        }
        BrushGlass all = Check.of(text.toString());
        Check.fine("colours of seven who meet", all, all.colours(), 7);
        Check.due("each", Edges.each(7, all::colourOf), "0 1 2 3 4 5 6");
    }

    private static String staying(int people, String... stays) {
        StringBuilder text = new StringBuilder("glass days 9 places 2 colours 1 reach 0");
        for (int p = 0; p < people; p++) {
            text.append(";person ").append((char) ('a' + p)).append(" sure buys first likes a keeps 3 wears 1 takes no");
        }
        for (String stay : stays) {
            text.append(";stay ").append(stay);
        }
        return text.toString();
    }

    private static void leastNumbers() {
        Check.on("COLOUR of each by it: the least numbers, person by person");
        BrushGlass pairs = Check.of(staying(4, "a 0 to 0", "c 0 to 0", "b 1 to 1", "d 1 to 1"));
        Check.due("two pairs", Edges.each(4, pairs::colourOf), "0 0 1 1");
        BrushGlass path = Check.of(staying(4, "a 0 to 0", "c 0 to 1", "d 1 to 2", "b 2 to 2"));
        Check.due("the least for b alone would take a third", Edges.each(4, path::colourOf), "0 1 1 0");
        Check.due("of a path", path.colours(), 2);
        BrushGlass ring = Check.of(staying(5, "a 0 to 0", "b 0 to 1", "c 1 to 2", "d 2 to 3", "e 3 to 4", "a 4 to 4"));
        Check.due("a ring of five: no three meet", ring.most(), 2);
        Check.due("but three it takes", ring.colours(), 3);
        Check.due("each of the ring", Edges.each(5, ring::colourOf), "0 1 0 1 2");
    }

    private static void notchesByPowers() {
        Check.on("NOTCHES: the fewest n so that of no colour there are ever more than 2 to the n THERE in an EVENING");
        int[] due = {0, 0, 1, 2, 2, 3, 3, 3};
        for (int alike = 0; alike <= 7; alike++) {
            StringBuilder text = new StringBuilder("glass days 3 places 8 colours 2 reach 0");
            StringBuilder stays = new StringBuilder();
            for (int p = 0; p < 7; p++) {
                char name = (char) ('a' + p);
                text.append(";person ").append(name).append(" sure buys first likes a keeps 3 wears 1 takes no");
                stays.append(p < alike ? ";stay " + name + " 2 to 2" : "");
            }
            BrushGlass x = Check.of(text.toString() + stays);
            Check.fine("notches of " + alike, x, x.notches(), due[alike]);
        }
        BrushGlass unlike = Check.of(glass(2, 3, sure("p", "a"), sure("q", "b"), sure("r", "c"),
            "stay p 0 to 0", "stay q 0 to 0", "stay r 0 to 0"));
        Check.fine("notches of three unlike", unlike, unlike.notches(), 0);
        BrushGlass full = Check.of(glass(2, 2, sure("p", "a"), sure("q", "a"), sure("r", "a"),
            "stay p 0 to 0", "stay q 0 to 0", "stay r 0 to 0"));
        Check.fine("notches of two, and one in the cupboard", full, full.notches(), 1);
        BrushGlass now = Check.of(glass(2, 2, sure("p", "a"), sure("q", "ab"), "stay p 0 to 0", "stay q 0 to 0"));
        Check.fine("notches", now, now.notches(), 1);
        now.habit(1, 1);
        Check.fine("notches NOW", now, now.notches(), 0);
        now.undo();
        Check.fine("notches again", now, now.notches(), 1);
    }

    private static void byAHabit() {
        Check.on("BY A HABIT: all buy by it");
        BrushGlass x = Check.of(glass(4, 8, who("p", "sure", "first", "ab"), who("q", "sure", "first", "ab"), who("r", "sure", "first", "ab"),
            "stay p 0 to 3", "stay q 1 to 3", "stay r 3 to 3"));
        Check.due("byHabit", Edges.each(3, x::byHabit), "3 1 1");
        Check.due("alikeDays, as they are", x.alikeDays(), 3);
        Check.due("HABITS NOW, as they are", Edges.each(3, p -> x.person(p, 1)), "0 0 0");
        Check.on("BY A HABIT: with KINDS, KEEPS and MOVES NOW");
        BrushGlass now = Check.of(glass(5, 2, sure("p", "ab").replace("no", "yes"), sure("q", "ab"),
            "stay p 0 to 0", "stay q 1 to 4", "stay p 2 to 4"));
        Check.due("byHabit", Edges.each(3, now::byHabit), "3 3 3");
        now.keep(0, 3);
        Check.due("byHabit, as p buys anew on day 3", Edges.each(3, now::byHabit), "3 1 1");
        BrushGlass nobody = Check.of(glass(2, 2, sure("p", "a")));
        Check.due("of nobody", Edges.each(3, nobody::byHabit), "0 0 0");
    }

    private static void bestHabits() {
        Check.on("BEST HABIT: fewest days with ALIKE; the first such");
        BrushGlass first = Check.of(glass(2, 2, sure("p", "a"), sure("q", "a"), "stay p 0 to 1", "stay q 0 to 1"));
        Check.due("all alike bad", Edges.each(3, first::byHabit), "2 2 2");
        Check.fine("the first of three", first, first.bestHabit(), 0);
        BrushGlass second = Check.of(glass(2, 2, sure("p", "ab"), sure("q", "ab"), "stay p 0 to 1", "stay q 0 to 1"));
        Check.due("two alike good", Edges.each(3, second::byHabit), "2 0 0");
        Check.fine("the first of two", second, second.bestHabit(), 1);
        String text = "glass days 6 places 8 colours 3 reach 0"
            + ";person p sure buys first likes a keeps 30 wears 1 takes yes"
            + ";person q sure buys first likes a keeps 30 wears 1 takes yes"
            + ";person s sure buys first likes b keeps 30 wears 1 takes yes"
            + ";person r sure buys first likes ab keeps 30 wears 1 takes yes"
            + ";stay p 0 to 5;stay q 0 to 0;stay s 0 to 0;stay r 0 to 5";
        BrushGlass third = Check.of(text);
        Check.due("rare alone is good", Edges.each(3, third::byHabit), "6 6 1");
        Check.fine("the last", third, third.bestHabit(), 2);
        BrushGlass now = Check.of(text);
        now.habit(3, 2);
        Check.due("by a habit, whatever they are now", Edges.each(3, now::byHabit), "6 6 1");
    }

    private static void byAKind() {
        Check.on("BY A KIND: all are of it");
        BrushGlass x = Check.of(glass(3, 4, sure("p", "a"), sure("q", "a"), sure("r", "b"),
            "stay p 0 to 2", "stay q 0 to 2", "stay r 0 to 2", "moves 1 0,2"));
        Check.due("byKind: q's stands ahead, then p's place has r's, r's has p's", Edges.each(4, x::byKind), "0 3 4 0");
        Check.due("sharedAll, as it is", x.sharedAll(), 0);
        Check.due("KINDS NOW, as they are", Edges.each(3, p -> x.person(p, 0)), "0 0 0");
        Check.on("BY A KIND: with MOVES NOW, by ACTS too");
        x.move(2, 0, 2);
        Check.due("byKind: on the last day all stand as on the first", Edges.each(4, x::byKind), "0 3 2 0");
        x.undo();
        Check.due("byKind again", Edges.each(4, x::byKind), "0 3 4 0");
        BrushGlass nobody = Check.of(glass(2, 2, sure("p", "a")));
        Check.due("of nobody", Edges.each(4, nobody::byKind), "0 0 0 0");
    }

    private static void bestKinds() {
        Check.on("BEST KIND: fewest SHARED; the first such");
        BrushGlass x = Check.of(glass(3, 4, who("p", "messy", "first", "a"), who("q", "messy", "first", "a"),
            "stay p 0 to 2", "stay q 0 to 2"));
        Check.due("three alike good", Edges.each(4, x::byKind), "0 3 0 0");
        Check.fine("the first of them", x, x.bestKind(), 0);
        Check.due("KINDS NOW, as they are", Edges.each(2, p -> x.person(p, 0)), "3 3");
    }

    private static BrushGlass reaching(int places, int reach) {
        return Check.of("glass days 2 places " + places + " colours 1 reach " + reach
            + ";person p sure buys first likes a keeps 3 wears 1 takes no");
    }

    private static void drift(int places, int reach, int place, int d, long upper, long lower) {
        BrushGlass x = reaching(places, reach);
        String told = "drift of places " + places + " reach " + reach + ", " + place + " " + d;
        Check.fine(told + ", upper", x, x.drift(place, d, false), upper);
        Check.fine(told + ", lower", x, x.drift(place, d, true), lower);
    }

    private static void driftOfNoDays() {
        Check.on("DRIFT: d days later: none (1 by 1)");
        drift(2, 0, 0, 0, 1, 1);
        drift(2, 100, 1, 0, 1, 1);
        drift(8, 50, 7, 0, 1, 1);
    }

    private static void driftOfReach() {
        Check.on("with a chance of reach in a hundred: 0, and 100");
        for (int d = 0; d <= 5; d++) {
            drift(2, 0, 0, d, 1, 1);
            drift(8, 0, 7, d, 1, 1);
        }
        Check.on("(0 by 1)");
        drift(2, 100, 0, 1, 0, 1);
        drift(2, 100, 1, 3, 0, 1);
        drift(2, 100, 0, 5, 0, 1);
        drift(2, 100, 0, 2, 1, 1);
        drift(2, 100, 1, 4, 1, 1);
        // a middle one of three always goes, an outer one stays if the other pair is exchanged
        drift(3, 100, 1, 1, 0, 1);
        drift(3, 100, 0, 1, 1, 2);
    }

    private static void driftInLowestTerms() {
        Check.on("in lowest terms");
        drift(2, 50, 0, 1, 1, 2);
        drift(2, 50, 0, 2, 1, 2);
        drift(2, 1, 0, 1, 99, 100);
        drift(2, 99, 0, 1, 1, 100);
        // 99 by 100 twice or 1 by 100 twice: 9802 by 10000
        drift(2, 1, 0, 2, 4901, 5000);
        drift(8, 7, 0, 1, 99, 100);
        drift(8, 7, 3, 1, 49, 50);
        drift(8, 100, 7, 1, 6, 7);
        drift(8, 100, 6, 1, 5, 7);
    }

    private static void driftOfMost() {
        Check.on("d 0 .. 5: as large as numbers get");
        PlainModel model = new PlainModel();
        model.places = 8;
        for (int reach : new int[] {1, 99, 100}) {
            model.reach = reach;
            for (int place = 0; place < 8; place++) {
                java.math.BigInteger[] due = model.drift(place, 5);
                drift(8, reach, place, 5, due[0].longValueExact(), due[1].longValueExact());
            }
        }
    }
}
