import java.util.ArrayList;
import java.util.List;
import java.util.function.Consumer;
import java.util.function.ToLongFunction;

/** What a call answers doesn't hang on the calls ahead of it that change nothing, and follows every change at once. */
public final class FirstCallTest {
    private static final String LINES = "seen 4 aba;seen 5 baa;says cy 4 2;says bob 5 2";

    public static void main(String[] args) {
        List<Consumer<BrushGlass>> changes = List.of(
            x -> { }, x -> x.kind(3, 0), x -> x.kind(1, 3), x -> x.habit(2, 0), x -> x.keep(0, 4), x -> x.move(5, 0, 1),
            x -> x.shake(), FirstCallTest::moveAndUndo, FirstCallTest::markAndGoBack, FirstCallTest::anotherGlass);
        for (int change = 0; change < changes.size(); change++) {
            BrushGlass asked = House.with(LINES);
            changes.get(change).accept(asked);
            List<ToLongFunction<BrushGlass>> calls = calls();
            for (int i = 0; i < calls.size(); i++) {
                long due = calls.get(i).applyAsLong(asked);
                BrushGlass fresh = House.with(LINES);
                changes.get(change).accept(fresh);
                Check.due("change " + change + ": call " + i + " as the first", calls.get(i).applyAsLong(fresh), due);
                BrushGlass warm = House.with(LINES);
                for (ToLongFunction<BrushGlass> ahead : calls) {
                    ahead.applyAsLong(warm);
                }
                changes.get(change).accept(warm);
                Check.due("change " + change + ": call " + i + " behind it", calls.get(i).applyAsLong(warm), due);
            }
        }
        Check.end();
    }

    private static void moveAndUndo(BrushGlass x) {
        x.move(4, 0, 1);
        x.explains();
        x.undo();
    }

    private static void markAndGoBack(BrushGlass x) {
        x.move(4, 0, 1);
        x.mark();
        x.kind(0, 3);
        x.explains();
        x.back(0);
    }

    private static void anotherGlass(BrushGlass x) {
        String text = "glass days 6 places 4 colours 3 reach 9"
            + ";person p colour buys rare likes cb keeps 3 wears 2 takes no"
            + ";person q place buys unlike likes ca keeps 4 wears 2 takes yes"
            + ";person r messy buys unlike likes cb keeps 5 wears 2 takes no"
            + ";person s colour buys first likes bc keeps 5 wears 2 takes no"
            + ";stay p 0 to 5;stay q 1 to 2;stay r 1 to 4;stay s 1 to 5;moves 2 0,1;seen 4 abcz;seen 5 zcba;says p 1 0;says r 5 1";
        Check.feed(x, text);
        x.glass(text.length());
    }

    private static List<ToLongFunction<BrushGlass>> calls() {
        List<ToLongFunction<BrushGlass>> calls = new ArrayList<>(List.of(
            x -> x.most(), x -> x.brushes(), x -> x.full(), x -> x.sharedAll(), x -> x.alikeDays(), x -> x.notches(),
            x -> x.bestHabit(), x -> x.bestKind(), x -> x.colours(), x -> x.judge(), x -> x.explains(), x -> x.wrongOnes(),
            x -> x.byHabit(0), x -> x.byHabit(1), x -> x.byHabit(2), x -> x.byKind(1), x -> x.byKind(2)));
        for (int p = 0; p < 4; p++) {
            int who = p;
            calls.addAll(List.of(x -> x.suffers(who), x -> x.sins(who), x -> x.colourOf(who), x -> x.brush(who, 4)));
            calls.addAll(List.of(x -> x.could(1, who), x -> x.place(4, who), x -> x.uses(4, who), x -> x.could(5, who)));
        }
        for (int i = 0; i < 3; i++) {
            int one = i;
            calls.addAll(List.of(x -> x.at(4, one), x -> x.colour(5, one), x -> x.whose(5, one), x -> x.wet(4, one)));
            calls.addAll(List.of(x -> x.surely(4, one), x -> x.judgeAt(one), x -> x.explain(0, one), x -> x.isTrue(one)));
            calls.addAll(List.of(x -> x.here(3 + one), x -> x.many(3 + one), x -> x.alike(3 + one)));
            calls.addAll(List.of(x -> x.shared(3 + one), x -> x.pairings(3 + one), x -> x.ask(3 + one)));
            calls.addAll(List.of(x -> x.drift(one, 2, true), x -> x.drift(one, 3, false)));
        }
        return calls;
    }
}
