import java.math.BigInteger;
import java.util.List;
import java.util.Random;

/** Glasses made by chance (always the same), answered as the plain model answers. */
public final class ModelTest {
    private static final int GLASSES = 400;
    private static final Random chance = new Random(1);
    private static final SomeGlass some = new SomeGlass(chance);

    public static void main(String[] args) {
        BrushGlass x = new BrushGlass();
        for (int made = 0; made < GLASSES; ) {
            PlainModel model = some.make(7, 8, chance.nextInt(5) == 0 ? 30 : 12);
            String text = model.text();
            if (text.length() > 1000) {
                continue;
            }
            made++;
            String told = "glass " + made;
            // what an object was used for leaves nothing behind, nor does a text with a fault at its end
            if (chance.nextInt(3) == 0) {
                x = new BrushGlass();
            } else if (text.length() < 999) {
                Check.feed(x, text + " ;");
                Check.due(told + " spoiled", x.glass(text.length() + 2), -1);
            }
            Check.feed(x, text);
            Check.due(told, x.glass(text.length()), model.people.size());
            compare(told, x, model);
            for (int act = 0; act < 4; act++) {
                someAct(told + " act " + act, x, model);
            }
            compare(told + " with acts", x, model);
        }
        Check.end();
    }

    private static int upTo(int most) {
        return chance.nextInt(most + 1);
    }

    private static void someAct(String told, BrushGlass x, PlainModel model) {
        int p = upTo(model.people.size() - 1);
        PlainModel.Human human = model.people.get(p);
        int value = upTo(3);
        switch (upTo(3)) {
            case 0:
                Check.due(told + " kind", x.kind(p, value), human.kind != value);
                human.kind = value;
                break;
            case 1:
                if (value < 3) {
                    Check.due(told + " habit", x.habit(p, value), human.habit != value);
                    human.habit = value;
                }
                break;
            case 2:
                Check.due(told + " keep", x.keep(p, 3 + value), human.keep != 3 + value);
                human.keep = 3 + value;
                break;
            default:
                int[] move = some.move(model);
                Check.due(told + " move", x.move(move[0], move[1], move[2]), true);
                model.acted.add(move);
                break;
        }
    }

    private static void compare(String told, BrushGlass x, PlainModel model) {
        model.go();
        comparePeople(told, x, model);
        compareEvenings(told, x, model);
        compareUses(told, x, model);
        compareSeen(told, x, model);
        for (int day = 0; day < model.days; day += 3) {
            comparePairings(told + " day " + day + " ", x, model, day);
        }
        compareDrift(told, x, model);
        compareBest(told, x, model);
    }

    private static void compareBest(String told, BrushGlass x, PlainModel model) {
        int[] best = {0, 0};
        int[] fewest = {99, 999};
        for (int habit = 0; habit < 3; habit++) {
            model.go(-1, habit, null);
            Check.due(told + " byHabit " + habit, x.byHabit(habit), model.daysAlike());
            best[0] = model.daysAlike() < fewest[0] ? habit : best[0];
            fewest[0] = Math.min(fewest[0], model.daysAlike());
        }
        for (int kind = 0; kind < 4; kind++) {
            model.go(kind, -1, null);
            Check.due(told + " byKind " + kind, x.byKind(kind), model.sharedAll());
            best[1] = model.sharedAll() < fewest[1] ? kind : best[1];
            fewest[1] = Math.min(fewest[1], model.sharedAll());
        }
        Check.due(told + " bestHabit", x.bestHabit(), best[0]);
        Check.due(told + " bestKind", x.bestKind(), best[1]);
        model.go();
    }

    private static void comparePeople(String told, BrushGlass x, PlainModel model) {
        int[] sizes = {model.days, model.places, model.colours, model.reach, model.people.size(),
            model.told.size() + model.acted.size(), model.seeings.size(), model.sayings.size()};
        for (int what = 0; what < sizes.length; what++) {
            Check.due(told + " size " + what, x.size(what), sizes[what]);
        }
        for (int p = 0; p < model.people.size(); p++) {
            comparePerson(told + " person " + p, x, p, model.people.get(p));
        }
        int most = 0;
        for (int day = 0; day < model.days; day++) {
            Check.due(told + " here " + day, x.here(day), model.here(day));
            most = Math.max(most, Integer.bitCount(model.here(day)));
        }
        Check.due(told + " most", x.most(), most);
        int[] colouring = model.colouring();
        int colours = 0;
        for (int p = 0; p < colouring.length; p++) {
            Check.due(told + " colourOf " + p, x.colourOf(p), colouring[p]);
            colours = Math.max(colours, colouring[p] + 1);
        }
        Check.due(told + " colours", x.colours(), colours);
    }

    private static void comparePerson(String told, BrushGlass x, int p, PlainModel.Human human) {
        int[] due = {human.kind, human.habit, human.keep, human.wears, human.takes ? 1 : 0, human.stays.size()};
        for (int what = 0; what < due.length; what++) {
            Check.due(told + " " + what, x.person(p, what), due[what]);
        }
        for (int i = 0; i <= human.order.length(); i++) {
            Check.due(told + " likes " + i, x.likes(p, i), i < human.order.length() ? human.order.charAt(i) - 'a' : -1);
        }
        for (int i = 0; i < human.stays.size(); i++) {
            Check.due(told + " stay from " + i, x.stay(p, i, 0), human.stays.get(i)[0]);
            Check.due(told + " stay to " + i, x.stay(p, i, 1), human.stays.get(i)[1]);
        }
    }

    private static void compareEvenings(String told, BrushGlass x, PlainModel model) {
        int full = -2;
        int most = 0;
        for (int day = model.days - 1; day >= 0; day--) {
            PlainModel.Evening evening = model.evenings.get(day);
            int many = 0;
            for (int place = 0; place < model.places; place++) {
                PlainModel.Brush there = evening.stands[place];
                String call = told + " day " + day + " place " + place;
                Check.due(call + " at", x.at(day, place), there == null ? -2 : there.number);
                Check.due(call + " colour", x.colour(day, place), there == null ? -2 : there.colour - 'a');
                Check.due(call + " whose", x.whose(day, place), there == null ? -2 : there.owner);
                boolean wet = false;
                for (PlainModel.Brush used : evening.used) {
                    wet |= used != null && used == there;
                }
                Check.due(call + " wet", x.wet(day, place), wet ? 1 : 0);
                many += there == null ? 0 : 1;
            }
            Check.due(told + " many " + day, x.many(day), many);
            Check.due(told + " alike " + day, x.alike(day), evening.alike());
            most = Math.max(most, evening.mostOfAColour());
            for (int p = 0; p < model.people.size(); p++) {
                Check.due(told + " place " + day + " " + p, x.place(day, p), evening.spots[p]);
                full = evening.spots[p] == 8 ? day : full;
            }
        }
        Check.due(told + " full", x.full(), full);
        Check.due(told + " alikeDays", x.alikeDays(), model.daysAlike());
        Check.due(told + " notches", x.notches(), most > 4 ? 3 : most > 2 ? 2 : most > 1 ? 1 : 0);
    }

    private static void compareUses(String told, BrushGlass x, PlainModel model) {
        Check.due(told + " brushes", x.brushes(), model.brushes.size());
        for (PlainModel.Brush brush : model.brushes) {
            int[] due = {brush.owner, brush.colour - 'a', brush.bought, brush.thrown, brush.worn};
            for (int what = 0; what < 5; what++) {
                Check.due(told + " brush " + brush.number + " " + what, x.brush(brush.number, what), due[what]);
            }
        }
        int led = 0;
        for (int p = 0; p < model.people.size(); p++) {
            int sins = 0;
            int suffers = 0;
            for (int day = 0; day < model.days; day++) {
                PlainModel.Brush[] used = model.evenings.get(day).used;
                Check.due(told + " uses " + day + " " + p, x.uses(day, p), used[p] == null ? -2 : used[p].number);
                sins += used[p] != null && used[p].owner != p ? 1 : 0;
                for (int q = 0; q < used.length; q++) {
                    suffers += q != p && used[q] != null && used[q].owner == p ? 1 : 0;
                }
            }
            Check.due(told + " sins " + p, x.sins(p), sins);
            Check.due(told + " suffers " + p, x.suffers(p), suffers);
            if (sins > 0) {
                Check.due(told + " led " + led, x.led(led), p);
                led++;
            }
        }
        for (int day = 0; day < model.days; day++) {
            Check.due(told + " shared " + day, x.shared(day), model.evenings.get(day).shared());
        }
        Check.due(told + " sharedAll", x.sharedAll(), model.sharedAll());
    }

    private static void compareSeen(String told, BrushGlass x, PlainModel model) {
        Check.due(told + " judge", x.judge(), model.firstWrong());
        for (int seeing = 0; seeing < model.seeings.size(); seeing++) {
            Check.due(told + " judgeAt " + seeing, x.judgeAt(seeing), model.wrongPlace(seeing));
        }
        if (model.firstWrong() < 0) {
            Check.refused(told + " explains", x, x.explains(), 5);
        } else {
            List<int[]> due = model.explanations();
            Check.due(told + " explains", x.explains(), due.size());
            for (int i = 0; i < due.size(); i++) {
                for (int what = 0; what < 3; what++) {
                    Check.due(told + " explain " + i + " " + what, x.explain(i, what), due.get(i)[what]);
                }
            }
        }
        int wrong = 0;
        for (int i = 0; i < model.sayings.size(); i++) {
            int[] saying = model.sayings.get(i);
            boolean holds = model.evenings.get(saying[1]).spots[saying[0]] == saying[2];
            Check.due(told + " isTrue " + i, x.isTrue(i), holds ? 1 : 0);
            wrong |= holds ? 0 : 1 << saying[0];
        }
        Check.due(told + " wrongOnes", x.wrongOnes(), wrong);
    }

    private static void comparePairings(String told, BrushGlass x, PlainModel model, int day) {
        List<int[]> all = model.pairings(day);
        if (all.size() > 3000) {
            Check.due(told + "pairings", x.pairings(day), all.size());
            return;
        }
        int[] could = new int[model.people.size()];
        for (int[] pairing : all) {
            for (int p = 0; p < could.length; p++) {
                could[p] |= pairing[p] < 0 ? 0 : 1 << pairing[p];
            }
        }
        Check.due(told + "pairings", x.pairings(day), all.size());
        for (int p = 0; p < could.length; p++) {
            Check.due(told + "could " + p, x.could(day, p), could[p]);
        }
        for (int place = 0; place < model.places; place++) {
            int surely = -2;
            for (int p = 0; p < could.length; p++) {
                boolean always = true;
                for (int[] pairing : all) {
                    always &= pairing[p] == place;
                }
                surely = always ? p : surely;
            }
            Check.due(told + "surely " + place, x.surely(day, place), surely);
        }
        Check.due(told + "ask", x.ask(day), model.ask(day, all));
    }

    private static void compareDrift(String told, BrushGlass x, PlainModel model) {
        int place = upTo(model.places - 1);
        for (int d = 0; d <= 4; d++) {
            BigInteger[] due = model.drift(place, d);
            Check.due(told + " drift " + place + " " + d, x.drift(place, d, false), due[0].longValueExact());
            Check.due(told + " drift below " + place + " " + d, x.drift(place, d, true), due[1].longValueExact());
        }
    }
}
