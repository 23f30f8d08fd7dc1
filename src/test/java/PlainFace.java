import java.util.ArrayDeque;
import java.util.ArrayList;
import java.util.Deque;
import java.util.List;

/** The document's face once more, on the plain models: every call by its name, its refusals, and what acts leave behind. */
final class PlainFace {
    static final long THROWS = Long.MIN_VALUE;
    private static final int NO_GLASS = 1;

    /** What acts change. */
    private static final class State {
        final List<int[]> people = new ArrayList<>();
        final List<int[]> moves = new ArrayList<>();
        int seed;
    }

    private final StringBuilder tape = new StringBuilder();
    private PlainModel model = new PlainModel();
    private final Deque<State> ahead = new ArrayDeque<>();
    private final List<State> marks = new ArrayList<>();
    private int seed;
    private int trouble;
    private int fault;
    private int faultPlace;
    private List<int[]> explanations;

    PlainFace() {
        model.go();
    }

    PlainModel model() {
        return model;
    }

    int brushes() {
        return model.brushes.size();
    }

    int bytes() {
        return tape.length();
    }

    /** What a call answers (true as 1, false as 0), or THROWS. */
    long call(String call, int... v) {
        int a = v.length > 0 ? v[0] : 0;
        int b = v.length > 1 ? v[1] : 0;
        int c = v.length > 2 ? v[2] : 0;
        switch (call) {
            case "feed":
                return feed(v);
            case "fault":
                return fault;
            case "where":
                return trouble == 4 ? faultPlace : -1;
            case "led":
                return led(a);
            case "size":
                return size(a);
            case "trouble":
                return trouble;
            default:
                trouble = refusal(call, a, b, c);
                break;
        }
        boolean isAct = List.of("move", "kind", "habit", "keep", "seed", "undo", "back").contains(call);
        if (trouble != 0) {
            return isAct ? 0 : -1;
        }
        if (call.equals("glass")) {
            return glass(a);
        }
        if (isAct || call.equals("shake") || call.equals("mark")) {
            return act(call, a, b, c);
        }
        return answer(call, a, b, c);
    }

    // ---- refusals

    private boolean hasGlass() {
        return !model.people.isEmpty();
    }

    private boolean isPerson(int p) {
        return within(p, 0, model.people.size() - 1);
    }

    private boolean isPlace(int place) {
        return within(place, 0, model.places - 1);
    }

    private static boolean within(int value, int least, int most) {
        return least <= value && value <= most;
    }

    private static int noneSuchBut(boolean right) {
        return right ? 0 : 1;
    }

    private int byDay(boolean right, int day) {
        return !right ? 1 : within(day, 0, model.days - 1) ? 0 : 2;
    }

    private int refusal(String call, int a, int b, int c) {
        switch (call) {
            case "glass":
                return within(a, 0, tape.length()) ? 0 : 2;
            case "person":
                return noneSuchBut(isPerson(a) && within(b, 0, 5));
            case "likes":
                return noneSuchBut(isPerson(a) && within(b, 0, model.people.get(a).order.length() - 1));
            case "stay":
                return noneSuchBut(isPerson(a) && within(b, 0, model.people.get(a).stays.size() - 1) && within(c, 0, 1));
            case "suffers": case "sins": case "colourOf":
                return noneSuchBut(isPerson(a));
            case "here": case "many": case "shared": case "alike": case "pairings": case "ask":
                return byDay(hasGlass(), a);
            case "at": case "colour": case "whose": case "wet": case "surely":
                return byDay(isPlace(b), a);
            case "place": case "uses": case "could":
                return byDay(isPerson(b), a);
            case "brush":
                return noneSuchBut(within(a, 0, brushes() - 1) && within(b, 0, 4));
            case "byHabit":
                return noneSuchBut(hasGlass() && within(a, 0, 2));
            case "byKind":
                return noneSuchBut(hasGlass() && within(a, 0, 3));
            case "judgeAt":
                return noneSuchBut(within(a, 0, model.seeings.size() - 1));
            case "isTrue":
                return noneSuchBut(within(a, 0, model.sayings.size() - 1));
            case "explains":
                return !hasGlass() ? NO_GLASS : model.firstWrong() < 0 ? 5 : 0;
            case "explain":
                return !hasGlass() || !within(b, 0, 2) ? 1 : model.firstWrong() < 0 ? 5 : noneSuchBut(within(a, 0, explanations().size() - 1));
            case "drift":
                return !isPlace(a) ? 1 : within(b, 0, 5) ? 0 : 2;
            case "undo":
                return ahead.isEmpty() ? 6 : 0;
            case "back":
                return noneSuchBut(within(a, 0, marks.size() - 1));
            default:
                return refusalOfActs(call, a, b, c);
        }
    }

    private int refusalOfActs(String call, int a, int b, int c) {
        switch (call) {
            case "move":
                int number = byDay(isPlace(b) && isPlace(c) && b != c, a);
                return number == 0 && model.acted.size() >= 12 ? 3 : number;
            case "shake":
                return !hasGlass() ? NO_GLASS : model.acted.size() >= 12 ? 3 : 0;
            case "mark":
                return !hasGlass() ? NO_GLASS : marks.size() >= 3 ? 3 : 0;
            case "kind":
                return !isPerson(a) || !within(b, 0, 3) ? 1 : model.people.get(a).kind == b ? 5 : 0;
            case "habit":
                return !isPerson(a) || !within(b, 0, 2) ? 1 : model.people.get(a).habit == b ? 5 : 0;
            case "keep":
                return !isPerson(a) ? 1 : !within(b, 3, 30) ? 2 : model.people.get(a).keep == b ? 5 : 0;
            case "seed":
                return !hasGlass() ? NO_GLASS : within(a, 0, 65536) ? 0 : 2;
            default:
                return hasGlass() ? 0 : NO_GLASS;
        }
    }

    // ---- the glass

    private int feed(int[] numbers) {
        if (tape.length() + 20 > 1000) {
            return -1;
        }
        for (int number : numbers) {
            for (int shift = 24; shift >= 0; shift -= 8) {
                tape.append((char) (number >> shift & 255));
            }
        }
        return tape.length();
    }

    private int glass(int n) {
        String text = tape.substring(0, n);
        tape.setLength(0);
        PlainReader reader = new PlainReader(text);
        fault = reader.fault;
        faultPlace = reader.where;
        if (fault != 0) {
            trouble = 4;
            return -1;
        }
        model = PlainModel.of(text);
        seed = 0;
        ahead.clear();
        marks.clear();
        changed();
        return model.people.size();
    }

    private void changed() {
        explanations = null;
        model.go();
    }

    private List<int[]> explanations() {
        if (explanations == null) {
            explanations = model.explanations();
        }
        return explanations;
    }

    // ---- acts

    private State now() {
        State state = new State();
        for (PlainModel.Human human : model.people) {
            state.people.add(new int[] {human.kind, human.habit, human.keep});
        }
        state.moves.addAll(model.acted);
        state.seed = seed;
        return state;
    }

    private void goBackTo(State state) {
        for (int p = 0; p < state.people.size(); p++) {
            PlainModel.Human human = model.people.get(p);
            human.kind = state.people.get(p)[0];
            human.habit = state.people.get(p)[1];
            human.keep = state.people.get(p)[2];
        }
        model.acted.clear();
        model.acted.addAll(state.moves);
        seed = state.seed;
    }

    private void keepAhead() {
        ahead.addLast(now());
        if (ahead.size() > 16) {
            ahead.removeFirst();
        }
    }

    private int draw() {
        seed = (int) ((75L * seed + 74) % 65537);
        return seed;
    }

    private long act(String call, int a, int b, int c) {
        long answer = 1;
        switch (call) {
            case "seed":
                seed = a;
                return 1;
            case "mark":
                marks.add(now());
                return marks.size() - 1;
            case "undo":
                goBackTo(ahead.removeLast());
                break;
            case "back":
                goBackTo(marks.get(a));
                ahead.clear();
                break;
            default:
                keepAhead();
                answer = change(call, a, b, c);
                break;
        }
        changed();
        return answer;
    }

    private long change(String call, int a, int b, int c) {
        switch (call) {
            case "kind":
                model.people.get(a).kind = b;
                return 1;
            case "habit":
                model.people.get(a).habit = b;
                return 1;
            case "keep":
                model.people.get(a).keep = b;
                return 1;
            case "move":
                model.acted.add(new int[] {a, b, c});
                return 1;
            default:
                int day = draw() % model.days;
                int place = draw() % (model.places - 1);
                model.acted.add(new int[] {day, place, place + 1});
                return 100 * day + place;
        }
    }

    // ---- answers

    private long led(int i) {
        int left = i;
        for (int p = 0; p < model.people.size(); p++) {
            if (sins(p) > 0 && left-- == 0) {
                return p;
            }
        }
        return THROWS;
    }

    private int size(int what) {
        int[] sizes = {model.days, model.places, model.colours, model.reach, model.people.size(),
            model.told.size() + model.acted.size(), model.seeings.size(), model.sayings.size(), seed, ahead.size(),
            marks.size(), tape.length()};
        return within(what, 0, 11) ? sizes[what] : -1;
    }

    private int sins(int p) {
        int sins = 0;
        for (PlainModel.Evening evening : model.evenings) {
            sins += evening.used[p] != null && evening.used[p].owner != p ? 1 : 0;
        }
        return sins;
    }

    private int suffers(int p) {
        int suffers = 0;
        for (PlainModel.Evening evening : model.evenings) {
            for (int q = 0; q < evening.used.length; q++) {
                suffers += q != p && evening.used[q] != null && evening.used[q].owner == p ? 1 : 0;
            }
        }
        return suffers;
    }

    private long answer(String call, int a, int b, int c) {
        switch (call) {
            case "person":
                PlainModel.Human human = model.people.get(a);
                return new int[] {human.kind, human.habit, human.keep, human.wears, human.takes ? 1 : 0, human.stays.size()}[b];
            case "likes":
                return model.people.get(a).order.charAt(b) - 'a';
            case "stay":
                return model.people.get(a).stays.get(b)[c];
            case "here":
                return model.here(a);
            case "brushes":
                return brushes();
            case "brush":
                PlainModel.Brush brush = model.brushes.get(a);
                return new int[] {brush.owner, brush.colour - 'a', brush.bought, brush.thrown, brush.worn}[b];
            case "suffers":
                return suffers(a);
            case "sins":
                return sins(a);
            case "colourOf":
                return model.colouring()[a];
            case "drift":
                return model.drift(a, b)[c].longValueExact();
            case "explains":
                return explanations().size();
            case "explain":
                return explanations().get(a)[b];
            case "judgeAt":
                return model.wrongPlace(a);
            case "isTrue":
                return isTrue(a) ? 1 : 0;
            case "byHabit":
                return byHabit(a);
            case "byKind":
                return byKind(a);
            case "at": case "colour": case "whose": case "wet":
                return answerOfPlace(call, model.evenings.get(a), b);
            case "many": case "shared": case "alike": case "place": case "uses":
                return answerOfDay(call, model.evenings.get(a), b);
            case "pairings": case "could": case "surely": case "ask":
                return answerOfPairings(call, a, b);
            default:
                return answerOfAll(call);
        }
    }

    private boolean isTrue(int i) {
        int[] saying = model.sayings.get(i);
        return model.evenings.get(saying[1]).spots[saying[0]] == saying[2];
    }

    private long answerOfPlace(String call, PlainModel.Evening evening, int place) {
        PlainModel.Brush there = evening.stands[place];
        boolean wet = false;
        for (PlainModel.Brush used : evening.used) {
            wet |= used != null && used == there;
        }
        if (call.equals("wet")) {
            return wet ? 1 : 0;
        }
        if (there == null) {
            return -2;
        }
        return call.equals("at") ? there.number : call.equals("colour") ? there.colour - 'a' : there.owner;
    }

    private long answerOfDay(String call, PlainModel.Evening evening, int p) {
        switch (call) {
            case "many":
                return evening.row().replace("z", "").length();
            case "shared":
                return evening.shared();
            case "alike":
                return evening.alike();
            case "place":
                return evening.spots[p];
            default:
                return evening.used[p] == null ? -2 : evening.used[p].number;
        }
    }

    private long answerOfPairings(String call, int day, int b) {
        List<int[]> all = model.pairings(day);
        if (call.equals("pairings")) {
            return all.size();
        }
        if (call.equals("ask")) {
            return model.ask(day, all);
        }
        int[] places = new int[model.people.size()];
        for (int[] pairing : all) {
            for (int p = 0; p < places.length; p++) {
                places[p] |= pairing[p] < 0 ? 0 : 1 << pairing[p];
            }
        }
        if (call.equals("could")) {
            return places[b];
        }
        for (int p = 0; p < places.length; p++) {
            if (places[p] == 1 << b) {
                return p;
            }
        }
        return -2;
    }

    private long byHabit(int habit) {
        model.go(-1, habit, null);
        int days = model.daysAlike();
        model.go();
        return days;
    }

    private long byKind(int kind) {
        model.go(kind, -1, null);
        int uses = model.sharedAll();
        model.go();
        return uses;
    }

    private long answerOfAll(String call) {
        switch (call) {
            case "most":
                return most();
            case "full":
                return full();
            case "sharedAll":
                return model.sharedAll();
            case "alikeDays":
                return model.daysAlike();
            case "notches":
                return notches();
            case "bestHabit":
                return best(byHabit(0), byHabit(1), byHabit(2));
            case "bestKind":
                return best(byKind(0), byKind(1), byKind(2), byKind(3));
            case "colours":
                return colours();
            case "judge":
                return model.firstWrong();
            case "wrongOnes":
                return wrongOnes();
            default:
                throw new IllegalArgumentException(call);
        }
    }

    private static int best(long... counts) {
        int best = 0;
        for (int i = 0; i < counts.length; i++) {
            best = counts[i] < counts[best] ? i : best;
        }
        return best;
    }

    private int most() {
        int most = 0;
        for (int day = 0; day < model.days; day++) {
            most = Math.max(most, Integer.bitCount(model.here(day)));
        }
        return most;
    }

    private int full() {
        for (int day = 0; day < model.days; day++) {
            for (int spot : model.evenings.get(day).spots) {
                if (spot == 8) {
                    return day;
                }
            }
        }
        return -2;
    }

    private int notches() {
        int most = 0;
        for (PlainModel.Evening evening : model.evenings) {
            most = Math.max(most, evening.mostOfAColour());
        }
        int notches = 0;
        while (1 << notches < most) {
            notches++;
        }
        return notches;
    }

    private int colours() {
        int colours = 0;
        for (int colour : model.colouring()) {
            colours = Math.max(colours, colour + 1);
        }
        return colours;
    }

    private int wrongOnes() {
        int bits = 0;
        for (int i = 0; i < model.sayings.size(); i++) {
            bits |= isTrue(i) ? 0 : 1 << model.sayings.get(i)[0];
        }
        return bits;
    }
}
