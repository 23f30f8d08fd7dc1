import java.util.NoSuchElementException;
import java.util.function.IntToLongFunction;
import java.util.function.LongSupplier;
import java.util.function.ToLongFunction;

/**
 * Each call that may be refused, by its promise: without a glass, too small, too large, both arguments wrong; the
 * number is told each time, whatever it was ahead of it, and is 0 behind a call that isn't refused.
 */
public final class RefusalsTest {
    private static final BrushGlass HOUSE = House.with("seen 0 azz;seen 4 aab;says ann 0 0;says cy 7 1");
    private static final BrushGlass NEW = new BrushGlass();

    public static void main(String[] args) {
        person();
        likes();
        stay();
        here();
        most();
        brushes();
        brush();
        at();
        colour();
        whose();
        place();
        many();
        full();
        uses();
        wet();
        shared();
        sharedAll();
        suffers();
        sins();
        alike();
        alikeDays();
        notches();
        byHabit();
        bestHabit();
        byKind();
        bestKind();
        colours();
        colourOf();
        judge();
        judgeAt();
        explains();
        explain();
        isTrue();
        wrongOnes();
        pairings();
        could();
        surely();
        ask();
        drift();
        move();
        shake();
        kind();
        habit();
        keep();
        seed();
        undo();
        mark();
        back();
        led();
        size();
        trouble();
        feedTellsNone();
        Check.end();
    }

    private static long bit(boolean answer) {
        return answer ? 1 : -1;
    }

    /** Leaves a number in TROUBLE that isn't this one. */
    private static void otherTrouble(BrushGlass x, int number) {
        if (x.size(4) == 0) {
            x.undo();
        } else if (number == 2) {
            x.person(-1, 0);
        } else {
            x.many(-1);
        }
        Check.due("TROUBLE ahead of it is " + number, x.trouble() == number || x.trouble() == 0, false);
    }

    private static void no(String call, BrushGlass x, int number, LongSupplier answer) {
        otherTrouble(x, number);
        Check.refused(call, x, answer.getAsLong(), number);
    }

    private static void yes(String call, BrushGlass x, LongSupplier answer) {
        otherTrouble(x, 0);
        Check.due(call + " is refused", answer.getAsLong() == -1, false);
        Check.due(call + ", then trouble()", x.trouble(), 0);
    }

    /** Refused by this number outside of the bounds, and not at either end of them. */
    private static void bounds(String call, int least, int most, int number, IntToLongFunction answer) {
        for (int value : Edges.outside(least, most)) {
            no(call + " " + value, HOUSE, number, () -> answer.applyAsLong(value));
        }
        yes(call + " " + least, HOUSE, () -> answer.applyAsLong(least));
        yes(call + " " + most, HOUSE, () -> answer.applyAsLong(most));
    }

    /** Refused by this number outside of the bounds, whatever else is wrong. */
    private static void first(String call, int least, int most, int number, IntToLongFunction answer) {
        for (int value : Edges.outside(least, most)) {
            no(call + " " + value, HOUSE, number, () -> answer.applyAsLong(value));
        }
    }

    private static void noGlass(String call, ToLongFunction<BrushGlass> answer) {
        no("no glass: " + call, NEW, 1, () -> answer.applyAsLong(NEW));
        BrushGlass spoiled = new BrushGlass();
        Check.feed(spoiled, House.PEOPLE + ";");
        spoiled.glass(House.PEOPLE.length() + 1);
        no("a glass with a fault alone: " + call, spoiled, 1, () -> answer.applyAsLong(spoiled));
    }

    private static void person() {
        Check.on("Promise 6: NONE: 1");
        noGlass("person(0, 0)", x -> x.person(0, 0));
        bounds("person, p", 0, 3, 1, p -> HOUSE.person(p, 0));
        bounds("person, what", 0, 5, 1, what -> HOUSE.person(3, what));
        first("person, both", 0, 3, 1, p -> HOUSE.person(p, 6));
    }

    private static void likes() {
        Check.on("Promise 7: NONE: 1");
        noGlass("likes(0, 0)", x -> x.likes(0, 0));
        bounds("likes, p", 0, 3, 1, p -> HOUSE.likes(p, 0));
        bounds("likes, i of two", 0, 1, 1, i -> HOUSE.likes(0, i));
        bounds("likes, i of one", 0, 0, 1, i -> HOUSE.likes(1, i));
        bounds("likes, i of three", 0, 2, 1, i -> HOUSE.likes(2, i));
    }

    private static void stay() {
        Check.on("Promise 8: NONE: 1");
        noGlass("stay(0, 0, 0)", x -> x.stay(0, 0, 0));
        bounds("stay, p", 0, 3, 1, p -> HOUSE.stay(p, 0, 1));
        bounds("stay, i of one", 0, 0, 1, i -> HOUSE.stay(0, i, 0));
        bounds("stay, i of two", 0, 1, 1, i -> HOUSE.stay(1, i, 1));
        bounds("stay, what", 0, 1, 1, what -> HOUSE.stay(1, 1, what));
    }

    private static void here() {
        Check.on("Promise 9: NONE: 1 (no GLASS); 2");
        noGlass("here(0)", x -> x.here(0));
        noGlass("here(-1)", x -> x.here(-1));
        bounds("here", 0, 7, 2, HOUSE::here);
    }

    private static void most() {
        Check.on("Promise 10: NONE: 1 (no GLASS)");
        noGlass("most()", BrushGlass::most);
        yes("most()", HOUSE, HOUSE::most);
    }

    private static void brushes() {
        Check.on("Promise 11: NONE: 1 (no GLASS)");
        noGlass("brushes()", BrushGlass::brushes);
        yes("brushes()", HOUSE, HOUSE::brushes);
    }

    private static void brush() {
        Check.on("Promise 12: NONE: 1");
        noGlass("brush(0, 0)", x -> x.brush(0, 0));
        bounds("brush, b", 0, 5, 1, b -> HOUSE.brush(b, 4));
        bounds("brush, what", 0, 4, 1, what -> HOUSE.brush(5, what));
        first("brush, both", 0, 4, 1, what -> HOUSE.brush(6, what));
    }

    private static void at() {
        Check.on("Promise 13: NONE: 1 (place); 2 (day)");
        noGlass("at(0, 0)", x -> x.at(0, 0));
        bounds("at, day", 0, 7, 2, day -> HOUSE.at(day, 2));
        bounds("at, place", 0, 2, 1, place -> HOUSE.at(7, place));
        first("at, both", 0, 2, 1, place -> HOUSE.at(8, place));
    }

    private static void colour() {
        Check.on("Promise 14: NONE: likewise");
        noGlass("colour(0, 0)", x -> x.colour(0, 0));
        bounds("colour, day", 0, 7, 2, day -> HOUSE.colour(day, 2));
        bounds("colour, place", 0, 2, 1, place -> HOUSE.colour(7, place));
        first("colour, both", 0, 2, 1, place -> HOUSE.colour(8, place));
    }

    private static void whose() {
        Check.on("Promise 15: NONE: likewise");
        noGlass("whose(0, 0)", x -> x.whose(0, 0));
        bounds("whose, day", 0, 7, 2, day -> HOUSE.whose(day, 2));
        bounds("whose, place", 0, 2, 1, place -> HOUSE.whose(7, place));
        first("whose, both", 0, 2, 1, place -> HOUSE.whose(8, place));
    }

    private static void place() {
        Check.on("Promise 16: NONE: 1; 2");
        noGlass("place(0, 0)", x -> x.place(0, 0));
        bounds("place, day", 0, 7, 2, day -> HOUSE.place(day, 3));
        bounds("place, p", 0, 3, 1, p -> HOUSE.place(7, p));
        first("place, both", 0, 3, 1, p -> HOUSE.place(8, p));
    }

    private static void many() {
        Check.on("Promise 17: NONE: 1 (no GLASS); 2");
        noGlass("many(0)", x -> x.many(0));
        noGlass("many(-1)", x -> x.many(-1));
        bounds("many", 0, 7, 2, HOUSE::many);
    }

    private static void full() {
        Check.on("Promise 18: NONE: 1 (no GLASS)");
        noGlass("full()", BrushGlass::full);
        yes("full()", HOUSE, HOUSE::full);
    }

    private static void uses() {
        Check.on("Promise 19: NONE: 1; 2");
        noGlass("uses(0, 0)", x -> x.uses(0, 0));
        bounds("uses, day", 0, 7, 2, day -> HOUSE.uses(day, 3));
        bounds("uses, p", 0, 3, 1, p -> HOUSE.uses(7, p));
        first("uses, both", 0, 3, 1, p -> HOUSE.uses(8, p));
    }

    private static void wet() {
        Check.on("Promise 20: NONE: 1 (place); 2");
        noGlass("wet(0, 0)", x -> x.wet(0, 0));
        bounds("wet, day", 0, 7, 2, day -> HOUSE.wet(day, 2));
        bounds("wet, place", 0, 2, 1, place -> HOUSE.wet(7, place));
        first("wet, both", 0, 2, 1, place -> HOUSE.wet(8, place));
    }

    private static void shared() {
        Check.on("Promise 21: NONE: 1 (no GLASS); 2");
        noGlass("shared(0)", x -> x.shared(0));
        noGlass("shared(-1)", x -> x.shared(-1));
        bounds("shared", 0, 7, 2, HOUSE::shared);
    }

    private static void sharedAll() {
        Check.on("Promise 22: NONE: 1 (no GLASS)");
        noGlass("sharedAll()", BrushGlass::sharedAll);
        yes("sharedAll()", HOUSE, HOUSE::sharedAll);
    }

    private static void suffers() {
        Check.on("Promise 23: NONE: 1");
        noGlass("suffers(0)", x -> x.suffers(0));
        bounds("suffers", 0, 3, 1, HOUSE::suffers);
    }

    private static void sins() {
        Check.on("Promise 24: NONE: 1");
        noGlass("sins(0)", x -> x.sins(0));
        bounds("sins", 0, 3, 1, HOUSE::sins);
    }

    private static void alike() {
        Check.on("Promise 25: NONE: 1 (no GLASS); 2");
        noGlass("alike(0)", x -> x.alike(0));
        noGlass("alike(-1)", x -> x.alike(-1));
        bounds("alike", 0, 7, 2, HOUSE::alike);
    }

    private static void alikeDays() {
        Check.on("Promise 26: NONE: 1 (no GLASS)");
        noGlass("alikeDays()", BrushGlass::alikeDays);
        yes("alikeDays()", HOUSE, HOUSE::alikeDays);
    }

    private static void notches() {
        Check.on("Promise 27: NONE: 1 (no GLASS)");
        noGlass("notches()", BrushGlass::notches);
        yes("notches()", HOUSE, HOUSE::notches);
    }

    private static void byHabit() {
        Check.on("Promise 28: NONE: 1");
        noGlass("byHabit(0)", x -> x.byHabit(0));
        bounds("byHabit", 0, 2, 1, HOUSE::byHabit);
    }

    private static void bestHabit() {
        Check.on("Promise 29: NONE: 1 (no GLASS)");
        noGlass("bestHabit()", BrushGlass::bestHabit);
        yes("bestHabit()", HOUSE, HOUSE::bestHabit);
    }

    private static void byKind() {
        Check.on("Promise 30: NONE: 1");
        noGlass("byKind(0)", x -> x.byKind(0));
        bounds("byKind", 0, 3, 1, HOUSE::byKind);
    }

    private static void bestKind() {
        Check.on("Promise 31: NONE: 1 (no GLASS)");
        noGlass("bestKind()", BrushGlass::bestKind);
        yes("bestKind()", HOUSE, HOUSE::bestKind);
    }

    private static void colours() {
        Check.on("Promise 32: NONE: 1 (no GLASS)");
        noGlass("colours()", BrushGlass::colours);
        yes("colours()", HOUSE, HOUSE::colours);
    }

    private static void colourOf() {
        Check.on("Promise 33: NONE: 1");
        noGlass("colourOf(0)", x -> x.colourOf(0));
        bounds("colourOf", 0, 3, 1, HOUSE::colourOf);
    }

    private static void judge() {
        Check.on("Promise 34: NONE: 1 (no GLASS)");
        noGlass("judge()", BrushGlass::judge);
        yes("judge()", HOUSE, HOUSE::judge);
    }

    private static void judgeAt() {
        Check.on("Promise 35: NONE: 1");
        noGlass("judgeAt(0)", x -> x.judgeAt(0));
        bounds("judgeAt", 0, 1, 1, HOUSE::judgeAt);
        BrushGlass none = House.whole();
        no("judgeAt(0) without seeings", none, 1, () -> none.judgeAt(0));
    }

    private static void explains() {
        Check.on("Promise 36: NONE: 1 (no GLASS); 5 (all are RIGHT)");
        noGlass("explains()", BrushGlass::explains);
        yes("explains()", HOUSE, HOUSE::explains);
        BrushGlass right = House.with("seen 0 azz");
        no("explains() of right ones", right, 5, right::explains);
    }

    private static void explain() {
        Check.on("Promise 37: NONE: 1 (no GLASS, what); 5; 1 (i)");
        noGlass("explain(0, 0)", x -> x.explain(0, 0));
        int count = HOUSE.explains();
        Check.due("the house has explanations", count > 1, true);
        bounds("explain, i", 0, count - 1, 1, i -> HOUSE.explain(i, 2));
        bounds("explain, what", 0, 2, 1, what -> HOUSE.explain(count - 1, what));
        BrushGlass right = House.with("seen 0 azz");
        no("explain of right ones", right, 5, () -> right.explain(0, 2));
        no("explain of right ones, i", right, 5, () -> right.explain(-1, 0));
        for (int what : Edges.outside(0, 2)) {
            no("explain of right ones, what " + what, right, 1, () -> right.explain(0, what));
        }
        BrushGlass without = House.with("seen 0 aaa");
        yes("explains() by none", without, without::explains);
        no("explain by none", without, 1, () -> without.explain(0, 0));
    }

    private static void isTrue() {
        Check.on("Promise 38: NONE: 1");
        noGlass("isTrue(0)", x -> x.isTrue(0));
        bounds("isTrue", 0, 1, 1, HOUSE::isTrue);
        BrushGlass none = House.whole();
        no("isTrue(0) without sayings", none, 1, () -> none.isTrue(0));
    }

    private static void wrongOnes() {
        Check.on("Promise 39: NONE: 1 (no GLASS)");
        noGlass("wrongOnes()", BrushGlass::wrongOnes);
        yes("wrongOnes()", HOUSE, HOUSE::wrongOnes);
    }

    private static void pairings() {
        Check.on("Promise 40: NONE: 1 (no GLASS); 2");
        noGlass("pairings(0)", x -> x.pairings(0));
        noGlass("pairings(-1)", x -> x.pairings(-1));
        bounds("pairings", 0, 7, 2, HOUSE::pairings);
    }

    private static void could() {
        Check.on("Promise 41: NONE: 1; 2");
        noGlass("could(0, 0)", x -> x.could(0, 0));
        bounds("could, day", 0, 7, 2, day -> HOUSE.could(day, 3));
        bounds("could, p", 0, 3, 1, p -> HOUSE.could(7, p));
        first("could, both", 0, 3, 1, p -> HOUSE.could(8, p));
    }

    private static void surely() {
        Check.on("Promise 42: NONE: 1 (place); 2");
        noGlass("surely(0, 0)", x -> x.surely(0, 0));
        bounds("surely, day", 0, 7, 2, day -> HOUSE.surely(day, 2));
        bounds("surely, place", 0, 2, 1, place -> HOUSE.surely(7, place));
        first("surely, both", 0, 2, 1, place -> HOUSE.surely(8, place));
    }

    private static void ask() {
        Check.on("Promise 43: NONE: 1 (no GLASS); 2");
        noGlass("ask(0)", x -> x.ask(0));
        noGlass("ask(-1)", x -> x.ask(-1));
        bounds("ask", 0, 7, 2, HOUSE::ask);
    }

    private static void drift() {
        Check.on("Promise 44: -1: 1 (place); 2 (d 0 .. 5)");
        for (boolean lower : new boolean[] {false, true}) {
            noGlass("drift(0, 0, " + lower + ")", x -> x.drift(0, 0, lower));
            bounds("drift, place, " + lower, 0, 2, 1, place -> HOUSE.drift(place, 0, lower));
            bounds("drift, d, " + lower, 0, 5, 2, d -> HOUSE.drift(2, d, lower));
            first("drift, both, " + lower, 0, 2, 1, place -> HOUSE.drift(place, 6, lower));
        }
    }

    private static void move() {
        Check.on("Promise 45: true; false: 1 (places, unlike); 2 (day); 3");
        noGlass("move(0, 0, 1)", x -> bit(x.move(0, 0, 1)));
        noGlass("move(-1, 0, 1)", x -> bit(x.move(-1, 0, 1)));
        first("move, day", 0, 7, 2, day -> bit(HOUSE.move(day, 0, 2)));
        first("move, place", 0, 2, 1, place -> bit(HOUSE.move(0, place, 1)));
        first("move, other", 0, 2, 1, other -> bit(HOUSE.move(0, 1, other)));
        first("move, place and day", 0, 2, 1, place -> bit(HOUSE.move(8, place, 1)));
        first("move, places alike and none such", 0, 2, 1, place -> bit(HOUSE.move(0, place, place)));
        for (int place = 0; place < 3; place++) {
            int alike = place;
            no("move, places alike " + place, HOUSE, 1, () -> bit(HOUSE.move(0, alike, alike)));
            no("move, places alike and no day " + place, HOUSE, 1, () -> bit(HOUSE.move(8, alike, alike)));
        }
        Check.due("none was an act", HOUSE.size(9), 0);
        Check.due("none is told", HOUSE.size(5), 1);
        BrushGlass x = House.whole();
        for (int i = 0; i < 12; i++) {
            yes("move " + i, x, () -> bit(x.move(7, 0, 2)));
        }
        no("move without room", x, 3, () -> bit(x.move(7, 0, 2)));
        no("move without room, no day", x, 2, () -> bit(x.move(8, 0, 2)));
        no("move without room, places alike", x, 1, () -> bit(x.move(7, 2, 2)));
    }

    private static void shake() {
        Check.on("Promise 46: NONE: 1 (no GLASS); 3");
        noGlass("shake()", BrushGlass::shake);
        Check.due("no glass: no draw", NEW.size(8), 0);
        BrushGlass x = House.whole();
        for (int i = 0; i < 12; i++) {
            yes("shake " + i, x, x::shake);
        }
        no("shake without room", x, 3, x::shake);
    }

    private static void kind() {
        Check.on("Promise 47: true; false: 1 (person, none such); 5 (he is that)");
        noGlass("kind(0, 0)", x -> bit(x.kind(0, 0)));
        first("kind, p", 0, 3, 1, p -> bit(HOUSE.kind(p, 2)));
        first("kind, kind", 0, 3, 1, kind -> bit(HOUSE.kind(3, kind)));
        first("kind, both", 0, 3, 1, p -> bit(HOUSE.kind(p, 4)));
        for (int p = 0; p < 4; p++) {
            int who = p;
            no("kind he is " + p, HOUSE, 5, () -> bit(HOUSE.kind(who, who)));
        }
        Check.due("none was an act", HOUSE.size(9), 0);
        BrushGlass x = House.whole();
        yes("kind(3, 0)", x, () -> bit(x.kind(3, 0)));
        yes("kind(0, 3)", x, () -> bit(x.kind(0, 3)));
    }

    private static void habit() {
        Check.on("Promise 48: HABIT, likewise");
        noGlass("habit(0, 0)", x -> bit(x.habit(0, 0)));
        first("habit, p", 0, 3, 1, p -> bit(HOUSE.habit(p, 2)));
        first("habit, habit", 0, 2, 1, habit -> bit(HOUSE.habit(3, habit)));
        first("habit, both", 0, 3, 1, p -> bit(HOUSE.habit(p, 3)));
        int[] habits = {0, 0, 1, 2};
        for (int p = 0; p < 4; p++) {
            int who = p;
            no("habit he has " + p, HOUSE, 5, () -> bit(HOUSE.habit(who, habits[who])));
        }
        Check.due("none was an act", HOUSE.size(9), 0);
        BrushGlass x = House.whole();
        yes("habit(3, 0)", x, () -> bit(x.habit(3, 0)));
        yes("habit(0, 2)", x, () -> bit(x.habit(0, 2)));
    }

    private static void keep() {
        Check.on("Promise 49: true; false: 1; 2 (3 .. 30); 5");
        noGlass("keep(0, 3)", x -> bit(x.keep(0, 3)));
        noGlass("keep(0, 2)", x -> bit(x.keep(0, 2)));
        first("keep, p", 0, 3, 1, p -> bit(HOUSE.keep(p, 5)));
        first("keep, days", 3, 30, 2, days -> bit(HOUSE.keep(0, days)));
        first("keep, both", 0, 3, 1, p -> bit(HOUSE.keep(p, 2)));
        no("keep so, the least", HOUSE, 5, () -> bit(HOUSE.keep(0, 3)));
        no("keep so, the most", HOUSE, 5, () -> bit(HOUSE.keep(3, 30)));
        Check.due("none was an act", HOUSE.size(9), 0);
        BrushGlass x = House.whole();
        yes("keep(0, 30)", x, () -> bit(x.keep(0, 30)));
        yes("keep(3, 3)", x, () -> bit(x.keep(3, 3)));
    }

    private static void seed() {
        Check.on("Promise 50: true; false: 1 (no GLASS); 2 (0 .. 65,536)");
        noGlass("seed(0)", x -> bit(x.seed(0)));
        noGlass("seed(-1)", x -> bit(x.seed(-1)));
        first("seed", 0, 65536, 2, v -> bit(HOUSE.seed(v)));
        BrushGlass x = House.whole();
        yes("seed(65536)", x, () -> bit(x.seed(65536)));
        yes("seed(0)", x, () -> bit(x.seed(0)));
    }

    private static void undo() {
        Check.on("Promise 51: true; false: 6");
        BrushGlass none = new BrushGlass();
        none.most();
        Check.refused("no glass: undo()", none, none.undo(), 6);
        BrushGlass x = House.whole();
        no("undo() of nothing", x, 6, () -> bit(x.undo()));
        x.move(0, 0, 1);
        yes("undo()", x, () -> bit(x.undo()));
        no("undo() of nothing more", x, 6, () -> bit(x.undo()));
    }

    private static void mark() {
        Check.on("Promise 52: NONE: 1 (no GLASS); 3");
        noGlass("mark()", BrushGlass::mark);
        BrushGlass x = House.whole();
        for (int i = 0; i < 3; i++) {
            yes("mark() " + i, x, x::mark);
        }
        no("mark() without room", x, 3, x::mark);
    }

    private static void back() {
        Check.on("Promise 53: true; false: 1");
        noGlass("back(0)", x -> bit(x.back(0)));
        first("back of none", 0, -1, 1, mark -> bit(HOUSE.back(mark)));
        BrushGlass x = House.whole();
        for (int marks = 1; marks <= 3; marks++) {
            x.mark();
            int last = marks - 1;
            for (int wrong : Edges.outside(0, last)) {
                no("back(" + wrong + ") of " + marks, x, 1, () -> bit(x.back(wrong)));
            }
            yes("back(0) of " + marks, x, () -> bit(x.back(0)));
            yes("back(last) of " + marks, x, () -> bit(x.back(last)));
        }
    }

    private static boolean isLed(BrushGlass x, int i, int due) {
        try {
            Check.due("led(" + i + ")", x.led(i), due);
            return true;
        } catch (NoSuchElementException e) {
            Check.due("led(" + i + ") throws the one that is told", e.getClass() == NoSuchElementException.class, true);
            return false;
        }
    }

    private static void led() {
        Check.on("Promise 54: NoSuchElementException if there is none such");
        for (int i : new int[] {Integer.MIN_VALUE, -1, 0, 1, Integer.MAX_VALUE}) {
            otherTrouble(NEW, 0);
            Check.due("no glass: led(" + i + ")", isLed(NEW, i, -1), false);
            Check.due("no glass: TROUBLE stays", NEW.trouble(), 6);
        }
        int[] due = {1, 2};
        for (int i : new int[] {0, 1}) {
            otherTrouble(HOUSE, 0);
            Check.due("led(" + i + ")", isLed(HOUSE, i, due[i]), true);
            Check.due("TROUBLE stays", HOUSE.trouble(), 2);
        }
        for (int i : Edges.outside(0, 1)) {
            otherTrouble(HOUSE, 0);
            Check.due("led(" + i + ")", isLed(HOUSE, i, -1), false);
            Check.due("TROUBLE stays", HOUSE.trouble(), 2);
        }
        BrushGlass sure = House.whole();
        sure.kind(1, 0);
        sure.kind(2, 0);
        Check.due("led(0) if none does", isLed(sure, 0, -1), false);
    }

    private static void size() {
        Check.on("Promise 55: NONE for others; 0 for what there isn't");
        for (int what = 0; what < 12; what++) {
            Check.due("no glass: size(" + what + ")", NEW.size(what), 0);
        }
        for (int what : Edges.outside(0, 11)) {
            Check.due("no glass: size(" + what + ")", NEW.size(what), -1);
            otherTrouble(HOUSE, 0);
            Check.due("size(" + what + ")", HOUSE.size(what), -1);
            Check.due("TROUBLE stays", HOUSE.trouble(), 2);
        }
        Check.due("sizes", Edges.each(12, HOUSE::size), "8 3 3 50 4 1 2 2 0 0 0 0");
        BrushGlass most = Check.of("glass days 30 places 8 colours 6 reach 100"
            + ";person p sure buys first likes a keeps 30 wears 9 takes no" + ";moves 0 0,1".repeat(10)
            + ";seen 0 zzzzzzzz".repeat(6) + ";says p 0 0".repeat(8));
        for (int i = 0; i < 12; i++) {
            most.move(29, 6, 7);
        }
        for (int i = 0; i < 5; i++) {
            most.keep(0, 20 + i);
            most.mark();
        }
        most.seed(65536);
        for (int i = 0; i < 60; i++) {
            most.feed(0, 0, 0, 0, 0);
        }
        Check.due("sizes, the most of each but people", Edges.each(12, most::size), "30 8 6 100 1 22 6 8 65536 16 3 1000");
    }

    private static void trouble() {
        Check.on("Promise 56; IV. 0 it wasn't; 1 there is none such; 2 a number; 3 no room; 4 a FAULT; 5 not so; 6 there is none");
        BrushGlass x = House.whole();
        Check.due("behind a glass", x.trouble(), 0);
        x.undo();
        Check.due("6", x.trouble(), 6);
        x.kind(0, 0);
        Check.due("5", x.trouble(), 5);
        x.glass(0);
        Check.due("4", x.trouble(), 4);
        x.mark();
        x.mark();
        x.mark();
        x.mark();
        Check.due("3", x.trouble(), 3);
        x.here(8);
        Check.due("2", x.trouble(), 2);
        x.person(4, 0);
        Check.due("1", x.trouble(), 1);
        x.most();
        Check.due("0", x.trouble(), 0);
        Check.due("0, asked again", x.trouble(), 0);
    }

    private static void feedTellsNone() {
        Check.on("(those of which a number is told here): feed isn't, nor fault, where");
        BrushGlass x = House.whole();
        otherTrouble(x, 0);
        for (int i = 0; i < 52; i++) {
            x.feed(0, 0, 0, 0, 0);
            x.fault();
            x.where();
            Check.due("TROUBLE stays behind feed " + i, x.trouble(), 2);
        }
    }
}
