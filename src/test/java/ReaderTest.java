import java.util.ArrayList;
import java.util.List;
import java.util.Random;
import java.util.TreeMap;

/** Texts with something wrong by chance (always the same): the fault and its place are as by patterns. */
public final class ReaderTest {
    private static final int TEXTS = 20000;
    private static final String[] TOKENS = {
        "glass", "person", "stay", "moves", "seen", "says", "days", "places", "colours", "reach", "buys", "likes",
        "keeps", "wears", "takes", "sure", "colour", "place", "messy", "first", "unlike", "rare", "yes", "no", "to",
        "m", "n", "o", "p", "ab", "ba", "abc", "aa", "abz", "zzz", "q", "abcdefgh", "abcdefghi", "0", "1", "2", "3", "4", "5",
        "9", "10", "30", "31", "100", "101", "999", "1000", "007", "0001", ";", ",", " ", "A", "-", "\u00e9", "\u0000", "."};
    private static final String WHOLE_TEXT = "glass days 6 places 3 colours 3 reach 50"
        + ";person m sure buys first likes ab keeps 3 wears 2 takes no"
        + ";person n colour buys unlike likes bca keeps 30 wears 1 takes yes"
        + ";person o messy buys rare likes c keeps 4 wears 9 takes yes"
        + ";stay m 0 to 1;stay n 1 to 2;stay m 3 to 3;stay m 4 to 5;stay o 5 to 5;stay n 4 to 5"
        + ";moves 3 0,1;moves 5 2 , 0;seen 0 azz;says m 0 0;seen 2 abc;says n 3 0";

    public static void main(String[] args) {
        TreeMap<Integer, Integer> met = new TreeMap<>();
        Random chance = new Random(7);
        for (int round = 0; round < TEXTS; round++) {
            String text = spoiled(chance);
            BrushGlass x = new BrushGlass();
            Check.feed(x, text);
            PlainReader due = new PlainReader(text);
            int people = x.glass(text.length());
            Check.due("fault of " + text, x.fault(), due.fault);
            Check.due("where of " + text, x.where(), due.where);
            Check.due("glass of " + text + " is refused", people == -1, due.fault != 0);
            met.merge(due.fault, 1, Integer::sum);
        }
        Check.due("sorts of faults met, none too: " + met, met.size(), 8);
        Check.end();
    }

    private static String spoiled(Random chance) {
        List<String> tokens = new ArrayList<>(List.of(WHOLE_TEXT.split("(?<=[ ;,])|(?=[ ;,])")));
        if (chance.nextInt(4) == 0) {
            repeatLines(tokens, chance);
        }
        for (int i = chance.nextInt(3); i >= 0 && !tokens.isEmpty(); i--) {
            int at = chance.nextInt(tokens.size());
            String some = TOKENS[chance.nextInt(TOKENS.length)];
            switch (chance.nextInt(8)) {
                case 0:
                    tokens.remove(at);
                    break;
                case 1:
                    tokens.add(at, some);
                    break;
                case 2:
                    tokens.set(at, tokens.get(chance.nextInt(tokens.size())));
                    break;
                case 3:
                    tokens.subList(at, tokens.size()).clear();
                    tokens.add(chance.nextBoolean() ? some : " ");
                    break;
                case 4:
                    tokens.addAll(List.of(WHOLE_TEXT.substring(WHOLE_TEXT.length() - 30).split("(?<=[ ;,])")));
                    break;
                default:
                    tokens.set(at, some);
                    break;
            }
        }
        String text = String.join("", tokens);
        return text.length() > 1000 ? text.substring(0, 1000) : text;
    }

    /** More lines of one sort, so that there is no room for the last. */
    private static void repeatLines(List<String> tokens, Random chance) {
        String[] lines = {";moves 1 0,2", ";seen 4 zab", ";says o 5 2", ";stay n 5 to 5", ";person"};
        int sort = chance.nextInt(lines.length);
        for (int i = 3 + chance.nextInt(8); i > 0; i--) {
            String line = lines[sort];
            if (sort == 4) {
                line += " x" + (char) ('a' + i) + " sure buys rare likes a keeps 3 wears 1 takes no";
            }
            tokens.addAll(List.of(line.split("(?<=[ ;,])|(?=[ ;,])")));
        }
    }
}
