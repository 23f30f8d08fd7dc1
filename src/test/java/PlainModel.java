import java.math.BigInteger;
import java.util.ArrayList;
import java.util.Arrays;
import java.util.List;

/** The document once more, in its plainest form, without thrift: what answers are compared with. */
final class PlainModel {
    static final String[] KINDS = {"sure", "colour", "place", "messy"};
    static final String[] HABITS = {"first", "unlike", "rare"};

    static final class Human implements Cloneable {
        int kind;
        int habit;
        String order;
        int keep;
        int wears;
        boolean takes;
        final List<int[]> stays = new ArrayList<>();

        boolean isHere(int day) {
            return stays.stream().anyMatch(s -> s[0] <= day && day <= s[1]);
        }
    }

    static final class Brush {
        int number;
        int owner;
        char colour;
        int bought;
        int thrown = -2;
        int worn;
        int spot;
    }

    /** An evening: copies of where all was. */
    static final class Evening {
        Brush[] stands;
        int[] spots;
        Brush[] used;

        int shared() {
            int shared = 0;
            for (int p = 0; p < used.length; p++) {
                shared += used[p] != null && used[p].owner != p ? 1 : 0;
            }
            return shared;
        }

        int alike() {
            int alike = 0;
            for (int a = 0; a < stands.length; a++) {
                for (int b = a + 1; b < stands.length; b++) {
                    alike += stands[a] != null && stands[b] != null && stands[a].colour == stands[b].colour ? 1 : 0;
                }
            }
            return alike;
        }

        int mostOfAColour() {
            int most = 0;
            for (char colour = 'a'; colour <= 'f'; colour++) {
                int count = 0;
                for (Brush brush : stands) {
                    count += brush != null && brush.colour == colour ? 1 : 0;
                }
                most = Math.max(most, count);
            }
            return most;
        }

        String row() {
            StringBuilder row = new StringBuilder();
            for (Brush brush : stands) {
                row.append(brush == null ? 'z' : brush.colour);
            }
            return row.toString();
        }
    }

    int days;
    int places;
    int colours;
    int reach;
    final List<Human> people = new ArrayList<>();
    final List<int[]> told = new ArrayList<>();
    final List<int[]> acted = new ArrayList<>();
    final List<Object[]> seeings = new ArrayList<>();
    final List<int[]> sayings = new ArrayList<>();

    // made anew by each go()
    List<Brush> brushes;
    List<Evening> evenings;

    String text() {
        StringBuilder text = new StringBuilder();
        text.append("glass days ").append(days).append(" places ").append(places);
        text.append(" colours ").append(colours).append(" reach ").append(reach);
        for (int p = 0; p < people.size(); p++) {
            Human human = people.get(p);
            text.append(";person ").append(name(p)).append(' ').append(KINDS[human.kind]);
            text.append(" buys ").append(HABITS[human.habit]).append(" likes ").append(human.order);
            text.append(" keeps ").append(human.keep).append(" wears ").append(human.wears);
            text.append(" takes ").append(human.takes ? "yes" : "no");
        }
        for (int p = 0; p < people.size(); p++) {
            for (int[] stay : people.get(p).stays) {
                text.append(";stay ").append(name(p)).append(' ').append(stay[0]).append(" to ").append(stay[1]);
            }
        }
        for (int[] move : told) {
            text.append(";moves ").append(move[0]).append(' ').append(move[1]).append(',').append(move[2]);
        }
        for (Object[] seeing : seeings) {
            text.append(";seen ").append(seeing[0]).append(' ').append(seeing[1]);
        }
        for (int[] saying : sayings) {
            text.append(";says ").append(name(saying[0])).append(' ').append(saying[1]).append(' ').append(saying[2]);
        }
        return text.toString();
    }

    /** The glass of a text that has no fault. */
    static PlainModel of(String text) {
        PlainModel model = new PlainModel();
        List<String> names = new ArrayList<>();
        for (String line : text.split(";")) {
            String parted = line.replaceAll("(?<=[a-z])(?=[0-9])|(?<=[0-9])(?=[a-z])|,", " ");
            model.add(parted.trim().split(" +"), names);
        }
        return model;
    }

    private void add(String[] words, List<String> names) {
        switch (words[0]) {
            case "glass":
                days = Integer.parseInt(words[2]);
                places = Integer.parseInt(words[4]);
                colours = Integer.parseInt(words[6]);
                reach = Integer.parseInt(words[8]);
                break;
            case "person":
                names.add(words[1]);
                people.add(human(words));
                break;
            case "stay":
                int[] stay = {Integer.parseInt(words[2]), Integer.parseInt(words[4])};
                people.get(names.indexOf(words[1])).stays.add(stay);
                break;
            case "moves":
                told.add(new int[] {Integer.parseInt(words[1]), Integer.parseInt(words[2]), Integer.parseInt(words[3])});
                break;
            case "seen":
                seeings.add(new Object[] {Integer.parseInt(words[1]), words[2]});
                break;
            default:
                sayings.add(new int[] {names.indexOf(words[1]), Integer.parseInt(words[2]), Integer.parseInt(words[3])});
                break;
        }
    }

    private static Human human(String[] words) {
        Human human = new Human();
        human.kind = Arrays.asList(KINDS).indexOf(words[2]);
        human.habit = Arrays.asList(HABITS).indexOf(words[4]);
        human.order = words[6];
        human.keep = Integer.parseInt(words[8]);
        human.wears = Integer.parseInt(words[10]);
        human.takes = words[12].equals("yes");
        return human;
    }

    static String name(int p) {
        return String.valueOf((char) ('p' + p));
    }

    void go() {
        go(-1, -1, null);
    }

    /** All days, by the kind or habit of each (-1) or by one for all, with one more move if there is one. */
    void go(int kindOfAll, int habitOfAll, int[] more) {
        brushes = new ArrayList<>();
        evenings = new ArrayList<>();
        Brush[] own = new Brush[people.size()];
        int[] put = new int[people.size()];
        for (int day = 0; day < days; day++) {
            for (int p = 0; p < own.length; p++) {
                for (int[] stay : people.get(p).stays) {
                    if (stay[0] == day) {
                        if (own[p] == null) {
                            own[p] = buy(p, day, own, habitOfAll);
                            put[p] = own[p].spot;
                        } else if (own[p].spot == 8 || own[p].spot == 9) {
                            own[p].spot = firstFree(own);
                            put[p] = own[p].spot;
                        }
                    }
                }
            }
            for (int p = 0; p < own.length; p++) {
                if (people.get(p).isHere(day) && own[p].bought + people.get(p).keep <= day) {
                    own[p].thrown = day;
                    own[p] = null;
                    own[p] = buy(p, day, own, habitOfAll);
                    put[p] = own[p].spot;
                }
            }
            moveAll(told, day, own);
            moveAll(acted, day, own);
            if (more != null) {
                moveAll(List.of(more), day, own);
            }
            evenings.add(use(day, own, put, kindOfAll));
            for (int p = 0; p < own.length; p++) {
                for (int[] stay : people.get(p).stays) {
                    if (stay[1] == day && people.get(p).takes) {
                        own[p].spot = 9;
                    }
                }
            }
        }
    }

    private Evening use(int day, Brush[] own, int[] put, int kindOfAll) {
        Evening evening = new Evening();
        evening.used = new Brush[own.length];
        for (int p = 0; p < own.length; p++) {
            if (!people.get(p).isHere(day)) {
                continue;
            }
            int kind = kindOfAll < 0 ? people.get(p).kind : kindOfAll;
            Brush chosen = own[p];
            if (own[p].spot != 8 && kind == 1) {
                for (int place = places - 1; place >= 0; place--) {
                    Brush there = standing(own, place);
                    if (there != null && there.colour == own[p].colour) {
                        chosen = there;
                    }
                }
            }
            if (own[p].spot != 8 && kind == 2 && standing(own, put[p]) != null) {
                chosen = standing(own, put[p]);
            }
            chosen.worn += people.get(p).wears;
            evening.used[p] = chosen;
            if (kind == 3 && own[p].spot != 8) {
                own[p].spot = 9;
                own[p].spot = firstFree(own);
            }
        }
        evening.stands = new Brush[places];
        for (int place = 0; place < places; place++) {
            evening.stands[place] = standing(own, place);
        }
        evening.spots = new int[own.length];
        for (int p = 0; p < own.length; p++) {
            evening.spots[p] = own[p] == null ? -2 : own[p].spot;
        }
        return evening;
    }

    private Brush buy(int p, int day, Brush[] own, int habitOfAll) {
        Human human = people.get(p);
        int habit = habitOfAll < 0 ? human.habit : habitOfAll;
        Brush brush = new Brush();
        brush.number = brushes.size();
        brush.owner = p;
        brush.bought = day;
        brush.colour = human.order.charAt(0);
        int least = 99;
        for (char colour : human.order.toCharArray()) {
            int count = 0;
            for (int place = 0; place < places; place++) {
                Brush there = standing(own, place);
                count += there != null && there.colour == colour ? 1 : 0;
            }
            if (habit == 1 && count == 0) {
                brush.colour = colour;
                break;
            }
            if (habit == 2 && count < least) {
                least = count;
                brush.colour = colour;
            }
        }
        brush.spot = firstFree(own);
        brushes.add(brush);
        return brush;
    }

    private int firstFree(Brush[] own) {
        for (int place = 0; place < places; place++) {
            if (standing(own, place) == null) {
                return place;
            }
        }
        return 8;
    }

    private static Brush standing(Brush[] own, int place) {
        for (Brush brush : own) {
            if (brush != null && brush.spot == place && place < 8) {
                return brush;
            }
        }
        return null;
    }

    private static void moveAll(List<int[]> moves, int day, Brush[] own) {
        for (int[] move : moves) {
            if (move[0] == day) {
                Brush one = standing(own, move[1]);
                Brush other = standing(own, move[2]);
                if (one != null) {
                    one.spot = move[2];
                }
                if (other != null) {
                    other.spot = move[1];
                }
            }
        }
    }

    int here(int day) {
        int bits = 0;
        for (int p = 0; p < people.size(); p++) {
            bits |= people.get(p).isHere(day) ? 1 << p : 0;
        }
        return bits;
    }

    int daysAlike() {
        return (int) evenings.stream().filter(e -> e.alike() > 0).count();
    }

    int sharedAll() {
        return evenings.stream().mapToInt(Evening::shared).sum();
    }

    int wrongPlace(int seeing) {
        String due = (String) seeings.get(seeing)[1];
        String row = evenings.get((Integer) seeings.get(seeing)[0]).row();
        for (int place = 0; place < places; place++) {
            if (due.charAt(place) != row.charAt(place)) {
                return place;
            }
        }
        return -2;
    }

    int firstWrong() {
        for (int seeing = 0; seeing < seeings.size(); seeing++) {
            if (wrongPlace(seeing) >= 0) {
                return seeing;
            }
        }
        return -2;
    }

    List<int[]> explanations() {
        List<int[]> found = new ArrayList<>();
        for (int day = 0; day < days; day++) {
            for (int a = 0; a < places; a++) {
                for (int b = a + 1; b < places; b++) {
                    go(-1, -1, new int[] {day, a, b});
                    if (firstWrong() < 0) {
                        found.add(new int[] {day, a, b});
                    }
                }
            }
        }
        go();
        return found;
    }

    /** Every pairing of an evening: of each person his place, or -1. */
    List<int[]> pairings(int day) {
        List<int[]> found = new ArrayList<>();
        int[] given = new int[people.size()];
        Arrays.fill(given, -1);
        pair(day, 0, given, found);
        return found;
    }

    boolean isAmong(int day, int p) {
        int spot = evenings.get(day).spots[p];
        return people.get(p).isHere(day) && spot >= 0 && spot < 8;
    }

    private void pair(int day, int p, int[] given, List<int[]> found) {
        if (p == people.size()) {
            found.add(given.clone());
            return;
        }
        if (!isAmong(day, p)) {
            pair(day, p + 1, given, found);
            return;
        }
        for (int place = 0; place < places; place++) {
            Brush there = evenings.get(day).stands[place];
            boolean free = true;
            for (int q = 0; q < p; q++) {
                free &= given[q] != place;
            }
            if (free && there != null && people.get(p).order.indexOf(there.colour) >= 0) {
                given[p] = place;
                pair(day, p + 1, given, found);
                given[p] = -1;
            }
        }
    }

    int ask(int day, List<int[]> all) {
        int best = -1;
        for (int bits = 0; bits < 1 << people.size(); bits++) {
            int left = 0;
            boolean fits = true;
            for (int p = 0; p < people.size(); p++) {
                fits &= (bits >> p & 1) == 0 || isAmong(day, p);
            }
            for (int[] pairing : all) {
                boolean same = true;
                for (int p = 0; p < people.size(); p++) {
                    same &= (bits >> p & 1) == 0 || pairing[p] == evenings.get(day).spots[p];
                }
                left += same ? 1 : 0;
            }
            if (fits && left == 1 && (best < 0 || Integer.bitCount(bits) < Integer.bitCount(best))) {
                best = bits;
            }
        }
        return best;
    }

    /** The colours by counting through all ways, the first number the highest. */
    int[] colouring() {
        int n = people.size();
        for (int colours = 1; ; colours++) {
            int[] way = new int[n];
            while (true) {
                if (isProper(way)) {
                    return way;
                }
                int last = n - 1;
                while (last >= 0 && way[last] == colours - 1) {
                    way[last] = 0;
                    last--;
                }
                if (last < 0) {
                    break;
                }
                way[last]++;
            }
        }
    }

    private boolean isProper(int[] way) {
        for (int a = 0; a < way.length; a++) {
            for (int b = a + 1; b < way.length; b++) {
                if (way[a] == way[b]) {
                    for (int day = 0; day < days; day++) {
                        if (people.get(a).isHere(day) && people.get(b).isHere(day)) {
                            return false;
                        }
                    }
                }
            }
        }
        return true;
    }

    /** The chance by going through all that can happen: upper and lower number. */
    BigInteger[] drift(int place, int d) {
        BigInteger lower = BigInteger.valueOf(100L * (places - 1)).pow(d);
        BigInteger upper = weight(place, place, d);
        BigInteger common = upper.gcd(lower);
        return new BigInteger[] {upper.divide(common), lower.divide(common)};
    }

    private BigInteger weight(int from, int to, int d) {
        if (d == 0) {
            return from == to ? BigInteger.ONE : BigInteger.ZERO;
        }
        BigInteger sum = weight(from, to, d - 1).multiply(BigInteger.valueOf((long) (100 - reach) * (places - 1)));
        for (int pair = 0; pair + 1 < places; pair++) {
            int next = from == pair ? pair + 1 : from == pair + 1 ? pair : from;
            sum = sum.add(weight(next, to, d - 1).multiply(BigInteger.valueOf(reach)));
        }
        return sum;
    }
}
