import java.util.Arrays;
import java.util.NoSuchElementException;

/** Whose toothbrush is the blue one: a glass with places, and people who come, buy, use and go. */
public final class BrushGlass {
    public static final int NONE = -1;

    private static final int NOTHING = -2;

    private static final int MOST_BYTES = 1000;
    private static final int BYTES_A_FEED = 20;
    private static final int MOST_DAYS = 30;
    private static final int MOST_PLACES = 8;
    private static final int MOST_COLOURS = 6;
    private static final int MOST_PEOPLE = 7;
    private static final int MOST_STAYS = 3;
    private static final int MOST_TOLD_MOVES = 10;
    private static final int MOST_SEEINGS = 6;
    private static final int MOST_SAYINGS = 8;
    private static final int MOST_ACT_MOVES = 12;
    private static final int MOST_KEPT = 16;
    private static final int MOST_MARKS = 3;
    private static final int LEAST_KEEP = 3;
    private static final int MOST_KEEP = 30;
    /** A brush is kept for three days or more, so a person buys ten in thirty days at most. */
    private static final int MOST_BRUSHES = MOST_PEOPLE * (MOST_DAYS / LEAST_KEEP);
    private static final int MOST_DRIFT_DAYS = 5;
    private static final int SEED_MODULUS = 65537;

    private static final int CUPBOARD = 8;
    private static final int WITH_HIM = 9;

    private static final int COLOUR_KIND = 1;
    private static final int PLACE_KIND = 2;
    private static final int MESSY_KIND = 3;
    private static final int KINDS = 4;
    private static final int FIRST_HABIT = 0;
    private static final int UNLIKE_HABIT = 1;
    private static final int HABITS = 3;

    private static final int NO_TROUBLE = 0;
    private static final int NO_SUCH = 1;
    private static final int BAD_NUMBER = 2;
    private static final int NO_ROOM = 3;
    private static final int FAULTY = 4;
    private static final int NOT_SO = 5;
    private static final int NOTHING_TO_UNDO = 6;

    private final byte[] tape = new byte[MOST_BYTES];
    private int tapeLength = 0;
    private Glass glass = new Glass();
    private Glass spare = new Glass();
    private final Reader reader = new Reader(tape, spare);
    private final Ways ways = new Ways();
    private final Ways supposed = new Ways();
    private final Memory memory = new Memory();
    private final Diary diary = new Diary(new Course(glass, ways));
    private final Diary trial = new Diary(new Course(glass, ways));
    private final Explanations explanations = new Explanations(new Course(glass, ways));
    private final Pairings pairing = new Pairings();
    private final Painting painting = new Painting();
    private final Drift drifting = new Drift();
    private boolean written = false;
    private int trouble = NO_TROUBLE;

    public BrushGlass() {
    }

    // ---- the glass

    public int feed(int a, int b, int c, int d, int e) {
        if (tapeLength + BYTES_A_FEED > MOST_BYTES) {
            return NONE;
        }
        append(a);
        append(b);
        append(c);
        append(d);
        append(e);
        return tapeLength;
    }

    public int glass(int n) {
        if (n < 0 || n > tapeLength) {
            return refuse(BAD_NUMBER);
        }
        tapeLength = 0;
        if (!reader.read(n, spare)) {
            return refuse(FAULTY);
        }
        Glass old = glass;
        glass = spare;
        spare = old;
        ways.begin(glass);
        memory.forget();
        painting.paint(glass);
        changed();
        return answer(glass.people);
    }

    public int fault() {
        return reader.fault;
    }

    public int where() {
        return trouble == FAULTY ? reader.faultPlace : NONE;
    }

    // ---- people

    public int person(int p, int what) {
        if (!isPerson(p) || what < 0 || what > 5) {
            return refuse(NO_SUCH);
        }
        Person person = glass.person[p];
        switch (what) {
            case 0:
                return answer(ways.kind[p]);
            case 1:
                return answer(ways.habit[p]);
            case 2:
                return answer(ways.keep[p]);
            case 3:
                return answer(person.wears);
            case 4:
                return answer(person.takes ? 1 : 0);
            default:
                return answer(person.stays);
        }
    }

    public int likes(int p, int i) {
        if (!isPerson(p) || i < 0 || i >= glass.person[p].likes) {
            return refuse(NO_SUCH);
        }
        return answer(glass.person[p].order[i]);
    }

    public int stay(int p, int i, int what) {
        if (!isPerson(p) || i < 0 || i >= glass.person[p].stays || what < 0 || what > 1) {
            return refuse(NO_SUCH);
        }
        Person person = glass.person[p];
        return answer(what == 0 ? person.firstDay[i] : person.lastDay[i]);
    }

    public int here(int day) {
        return allowsDay(day) ? glass.here[day] : NONE;
    }

    public int most() {
        return allowsGlass() ? glass.crowd() : NONE;
    }

    // ---- brushes

    public int brushes() {
        return allowsGlass() ? today().course.bought : NONE;
    }

    public int brush(int b, int what) {
        Course course = today().course;
        if (b < 0 || b >= course.bought || what < 0 || what > 4) {
            return refuse(NO_SUCH);
        }
        switch (what) {
            case 0:
                return answer(course.owner[b]);
            case 1:
                return answer(course.tint[b]);
            case 2:
                return answer(course.since[b]);
            case 3:
                return answer(course.gone[b]);
            default:
                return answer(course.worn[b]);
        }
    }

    public int at(int day, int place) {
        return allowsPlace(day, place) ? today().brushAt(day, place) : NONE;
    }

    public int colour(int day, int place) {
        return allowsPlace(day, place) ? today().tintAt(day, place) : NONE;
    }

    public int whose(int day, int place) {
        if (!allowsPlace(day, place)) {
            return NONE;
        }
        int brush = today().brushAt(day, place);
        return brush < 0 ? NOTHING : diary.course.owner[brush];
    }

    public int place(int day, int p) {
        return allowsPerson(day, p) ? today().spotOf(day, p) : NONE;
    }

    public int many(int day) {
        if (!allowsDay(day)) {
            return NONE;
        }
        today();
        int there = 0;
        for (int place = 0; place < glass.places; place++) {
            there += diary.brushAt(day, place) >= 0 ? 1 : 0;
        }
        return there;
    }

    public int full() {
        return allowsGlass() ? today().firstFull : NONE;
    }

    // ---- uses

    public int uses(int day, int p) {
        return allowsPerson(day, p) ? today().usedBy(day, p) : NONE;
    }

    public int wet(int day, int place) {
        if (!allowsPlace(day, place)) {
            return NONE;
        }
        int brush = today().brushAt(day, place);
        if (brush < 0) {
            return 0;
        }
        for (int p = 0; p < glass.people; p++) {
            if (diary.usedBy(day, p) == brush) {
                return 1;
            }
        }
        return 0;
    }

    public int shared(int day) {
        return allowsDay(day) ? today().sharedOn[day] : NONE;
    }

    public int sharedAll() {
        return allowsGlass() ? today().sharedUses : NONE;
    }

    public int suffers(int p) {
        return allowsOne(p) ? today().suffered[p] : NONE;
    }

    public int sins(int p) {
        return allowsOne(p) ? today().sinned[p] : NONE;
    }

    // ---- alike

    public int alike(int day) {
        return allowsDay(day) ? today().alikeOn[day] : NONE;
    }

    public int alikeDays() {
        return allowsGlass() ? today().daysAlike : NONE;
    }

    public int notches() {
        if (!allowsGlass()) {
            return NONE;
        }
        int most = today().mostOfOneColour;
        int notches = 0;
        while (notches < MOST_PLACES && (1 << notches) < most) {
            notches++;
        }
        return notches;
    }

    public int byHabit(int habit) {
        if (!hasGlass() || habit < 0 || habit >= HABITS) {
            return refuse(NO_SUCH);
        }
        return answer(daysAlikeIfAllBuyBy(habit));
    }

    public int bestHabit() {
        if (!allowsGlass()) {
            return NONE;
        }
        int best = 0;
        int fewest = daysAlikeIfAllBuyBy(0);
        for (int habit = 1; habit < HABITS; habit++) {
            int days = daysAlikeIfAllBuyBy(habit);
            if (days < fewest) {
                fewest = days;
                best = habit;
            }
        }
        return best;
    }

    public int byKind(int kind) {
        if (!hasGlass() || kind < 0 || kind >= KINDS) {
            return refuse(NO_SUCH);
        }
        return answer(sharedIfAllAre(kind));
    }

    public int bestKind() {
        if (!allowsGlass()) {
            return NONE;
        }
        int best = 0;
        int fewest = sharedIfAllAre(0);
        for (int kind = 1; kind < KINDS; kind++) {
            int uses = sharedIfAllAre(kind);
            if (uses < fewest) {
                fewest = uses;
                best = kind;
            }
        }
        return best;
    }

    public int colours() {
        return allowsGlass() ? painting.fewest : NONE;
    }

    public int colourOf(int p) {
        return allowsOne(p) ? painting.paintOf[p] : NONE;
    }

    // ---- what was seen and said

    public int judge() {
        return allowsGlass() ? firstWrongSeeing(today()) : NONE;
    }

    public int judgeAt(int seeing) {
        if (seeing < 0 || seeing >= glass.seeings) {
            return refuse(NO_SUCH);
        }
        return answer(today().wrongPlace(glass, seeing));
    }

    public int explains() {
        if (!hasGlass()) {
            return refuse(NO_SUCH);
        }
        if (firstWrongSeeing(today()) < 0) {
            return refuse(NOT_SO);
        }
        explanations.search(glass, ways);
        return answer(explanations.count);
    }

    public int explain(int i, int what) {
        if (!hasGlass() || what < 0 || what > 2) {
            return refuse(NO_SUCH);
        }
        if (firstWrongSeeing(today()) < 0) {
            return refuse(NOT_SO);
        }
        explanations.search(glass, ways);
        if (i < 0 || i >= explanations.count) {
            return refuse(NO_SUCH);
        }
        return answer(explanations.part(i, what));
    }

    public int isTrue(int saying) {
        if (saying < 0 || saying >= glass.sayings) {
            return refuse(NO_SUCH);
        }
        return answer(holds(today(), saying) ? 1 : 0);
    }

    public int wrongOnes() {
        if (!allowsGlass()) {
            return NONE;
        }
        today();
        int bits = 0;
        for (int saying = 0; saying < glass.sayings; saying++) {
            if (!holds(diary, saying)) {
                bits |= 1 << glass.sayer[saying];
            }
        }
        return bits;
    }

    // ---- whose it could be

    public int pairings(int day) {
        if (!allowsDay(day)) {
            return NONE;
        }
        pairing.gather(glass, today(), day);
        return pairing.count(0);
    }

    public int could(int day, int p) {
        if (!allowsPerson(day, p)) {
            return NONE;
        }
        pairing.gather(glass, today(), day);
        return pairing.possible(p);
    }

    public int surely(int day, int place) {
        if (!allowsPlace(day, place)) {
            return NONE;
        }
        pairing.gather(glass, today(), day);
        for (int p = 0; p < glass.people; p++) {
            if (pairing.possible(p) == 1 << place) {
                return p;
            }
        }
        return NOTHING;
    }

    public int ask(int day) {
        if (!allowsDay(day)) {
            return NONE;
        }
        pairing.gather(glass, today(), day);
        return pairing.fewestToAsk();
    }

    // ---- drift

    public long drift(int place, int d, boolean lower) {
        if (!isPlace(place)) {
            return refuse(NO_SUCH);
        }
        if (d < 0 || d > MOST_DRIFT_DAYS) {
            return refuse(BAD_NUMBER);
        }
        trouble = NO_TROUBLE;
        drifting.after(glass, place, d);
        return lower ? drifting.below : drifting.above;
    }

    // ---- acts

    public boolean move(int day, int place, int other) {
        if (!isPlace(place) || !isPlace(other) || place == other) {
            return deny(NO_SUCH);
        }
        if (!isDay(day)) {
            return deny(BAD_NUMBER);
        }
        if (ways.moves >= MOST_ACT_MOVES) {
            return deny(NO_ROOM);
        }
        memory.keepAhead(ways);
        ways.addMove(day, place, other);
        return done();
    }

    public int shake() {
        if (!hasGlass() || glass.days < 1 || glass.places < 2) {
            return refuse(NO_SUCH);
        }
        if (ways.moves >= MOST_ACT_MOVES) {
            return refuse(NO_ROOM);
        }
        memory.keepAhead(ways);
        int day = ways.draw() % glass.days;
        int place = ways.draw() % (glass.places - 1);
        ways.addMove(day, place, place + 1);
        changed();
        return answer(100 * day + place);
    }

    public boolean kind(int p, int kind) {
        if (!isPerson(p) || kind < 0 || kind >= KINDS) {
            return deny(NO_SUCH);
        }
        if (ways.kind[p] == kind) {
            return deny(NOT_SO);
        }
        memory.keepAhead(ways);
        ways.kind[p] = kind;
        return done();
    }

    public boolean habit(int p, int habit) {
        if (!isPerson(p) || habit < 0 || habit >= HABITS) {
            return deny(NO_SUCH);
        }
        if (ways.habit[p] == habit) {
            return deny(NOT_SO);
        }
        memory.keepAhead(ways);
        ways.habit[p] = habit;
        return done();
    }

    public boolean keep(int p, int days) {
        if (!isPerson(p)) {
            return deny(NO_SUCH);
        }
        if (days < LEAST_KEEP || days > MOST_KEEP) {
            return deny(BAD_NUMBER);
        }
        if (ways.keep[p] == days) {
            return deny(NOT_SO);
        }
        memory.keepAhead(ways);
        ways.keep[p] = days;
        return done();
    }

    public boolean seed(int v) {
        if (!hasGlass()) {
            return deny(NO_SUCH);
        }
        if (v < 0 || v >= SEED_MODULUS) {
            return deny(BAD_NUMBER);
        }
        ways.seed = v;
        trouble = NO_TROUBLE;
        return true;
    }

    public boolean undo() {
        if (memory.kept == 0) {
            return deny(NOTHING_TO_UNDO);
        }
        memory.takeBack(ways);
        return done();
    }

    public int mark() {
        if (!hasGlass()) {
            return refuse(NO_SUCH);
        }
        if (memory.marks >= MOST_MARKS) {
            return refuse(NO_ROOM);
        }
        return answer(memory.setMark(ways));
    }

    public boolean back(int mark) {
        if (mark < 0 || mark >= memory.marks) {
            return deny(NO_SUCH);
        }
        memory.goBack(mark, ways);
        return done();
    }

    // ---- what is told

    public int led(int i) throws NoSuchElementException {
        int left = i;
        for (int p = 0; p < glass.people && left >= 0; p++) {
            if (today().sinned[p] > 0) {
                if (left == 0) {
                    return p;
                }
                left--;
            }
        }
        throw new NoSuchElementException();
    }

    public int size(int what) {
        switch (what) {
            case 0:
                return glass.days;
            case 1:
                return glass.places;
            case 2:
                return glass.colours;
            case 3:
                return glass.reach;
            case 4:
                return glass.people;
            case 5:
                return glass.moves + ways.moves;
            case 6:
                return glass.seeings;
            case 7:
                return glass.sayings;
            case 8:
                return ways.seed;
            case 9:
                return memory.kept;
            case 10:
                return memory.marks;
            case 11:
                return tapeLength;
            default:
                return NONE;
        }
    }

    public int trouble() {
        return trouble;
    }

    // ---- answers and refusals

    private int answer(int value) {
        trouble = NO_TROUBLE;
        return value;
    }

    private int refuse(int number) {
        trouble = number;
        return NONE;
    }

    private boolean deny(int number) {
        trouble = number;
        return false;
    }

    private boolean done() {
        changed();
        trouble = NO_TROUBLE;
        return true;
    }

    private boolean hasGlass() {
        return glass.people > 0;
    }

    private boolean isDay(int day) {
        return day >= 0 && day < glass.days;
    }

    private boolean isPlace(int place) {
        return place >= 0 && place < glass.places;
    }

    private boolean isPerson(int p) {
        return p >= 0 && p < glass.people;
    }

    private boolean allowsGlass() {
        trouble = hasGlass() ? NO_TROUBLE : NO_SUCH;
        return trouble == NO_TROUBLE;
    }

    private boolean allowsOne(int p) {
        trouble = isPerson(p) ? NO_TROUBLE : NO_SUCH;
        return trouble == NO_TROUBLE;
    }

    private boolean allowsDay(int day) {
        return allowsGlass() && allowsNumber(isDay(day));
    }

    private boolean allowsPerson(int day, int p) {
        return allowsOne(p) && allowsNumber(isDay(day));
    }

    private boolean allowsPlace(int day, int place) {
        trouble = isPlace(place) ? NO_TROUBLE : NO_SUCH;
        return trouble == NO_TROUBLE && allowsNumber(isDay(day));
    }

    private boolean allowsNumber(boolean within) {
        trouble = within ? NO_TROUBLE : BAD_NUMBER;
        return within;
    }

    // ---- what the answers are made of

    private void append(int number) {
        for (int shift = 24; shift >= 0 && tapeLength < MOST_BYTES; shift -= 8) {
            tape[tapeLength] = (byte) (number >> shift);
            tapeLength++;
        }
    }

    private void changed() {
        written = false;
        explanations.searched = false;
    }

    private Diary today() {
        if (!written) {
            diary.write(glass, ways);
            written = true;
        }
        return diary;
    }

    private int daysAlikeIfAllBuyBy(int habit) {
        supposed.take(ways);
        Arrays.fill(supposed.habit, habit);
        trial.write(glass, supposed);
        return trial.daysAlike;
    }

    private int sharedIfAllAre(int kind) {
        supposed.take(ways);
        Arrays.fill(supposed.kind, kind);
        trial.write(glass, supposed);
        return trial.sharedUses;
    }

    private int firstWrongSeeing(Diary evenings) {
        for (int seeing = 0; seeing < glass.seeings; seeing++) {
            if (evenings.wrongPlace(glass, seeing) >= 0) {
                return seeing;
            }
        }
        return NOTHING;
    }

    private boolean holds(Diary evenings, int saying) {
        int spot = evenings.spotOf(glass.saidDay[saying], glass.sayer[saying]);
        return spot == glass.saidPlace[saying];
    }

    /** A person as the text tells him. */
    private static final class Person {
        int nameStart = 0;
        int nameLength = 0;
        int kind = 0;
        int habit = 0;
        int likes = 0;
        final int[] order = new int[MOST_COLOURS];
        int keep = 0;
        int wears = 0;
        boolean takes = false;
        int stays = 0;
        final int[] firstDay = new int[MOST_STAYS];
        final int[] lastDay = new int[MOST_STAYS];

        boolean isLiked(int colour) {
            for (int i = 0; i < likes; i++) {
                if (order[i] == colour) {
                    return true;
                }
            }
            return false;
        }
    }

    /** A glass as the text tells it; with no people there is none. */
    private static final class Glass {
        int days = 0;
        int places = 0;
        int colours = 0;
        int reach = 0;
        int people = 0;
        final Person[] person = new Person[MOST_PEOPLE];
        int moves = 0;
        final int[] moveDay = new int[MOST_TOLD_MOVES];
        final int[] movePlace = new int[MOST_TOLD_MOVES];
        final int[] moveOther = new int[MOST_TOLD_MOVES];
        int seeings = 0;
        final int[] seenDay = new int[MOST_SEEINGS];
        final int[] seen = new int[MOST_SEEINGS * MOST_PLACES];
        int sayings = 0;
        final int[] sayer = new int[MOST_SAYINGS];
        final int[] saidDay = new int[MOST_SAYINGS];
        final int[] saidPlace = new int[MOST_SAYINGS];
        final int[] here = new int[MOST_DAYS];
        final int[] comes = new int[MOST_DAYS];
        final int[] goes = new int[MOST_DAYS];

        Glass() {
            for (int p = 0; p < MOST_PEOPLE; p++) {
                person[p] = new Person();
            }
        }

        void clear() {
            days = 0;
            places = 0;
            colours = 0;
            reach = 0;
            people = 0;
            moves = 0;
            seeings = 0;
            sayings = 0;
            Arrays.fill(here, 0);
            Arrays.fill(comes, 0);
            Arrays.fill(goes, 0);
        }

        void addStay(int p, int first, int last) {
            Person one = person[p];
            one.firstDay[one.stays] = first;
            one.lastDay[one.stays] = last;
            one.stays++;
            for (int day = first; day <= last; day++) {
                here[day] |= 1 << p;
            }
            comes[first] |= 1 << p;
            goes[last] |= 1 << p;
        }

        int crowd() {
            int crowd = 0;
            for (int day = 0; day < days; day++) {
                crowd = Math.max(crowd, Integer.bitCount(here[day]));
            }
            return crowd;
        }

        int lastSeenDay() {
            int last = NONE;
            for (int seeing = 0; seeing < seeings; seeing++) {
                last = Math.max(last, seenDay[seeing]);
            }
            return last;
        }
    }

    /** Reads a text from the left and stops at its first fault. */
    private static final class Reader {
        private static final int FORM = 1;
        private static final int UNTOLD = 2;
        private static final int AGAIN = 3;
        private static final int BOUNDS = 4;
        private static final int MANY = 5;
        private static final int LACKS = 6;
        private static final int LETTERS = 7;

        private static final int END = 0;
        private static final int WORD = 1;
        private static final int WHOLE = 2;
        private static final int SEMICOLON = 3;
        private static final int COMMA = 4;
        private static final int NO_TOKEN = 5;

        private static final int MOST_LETTERS = 8;
        private static final int MOST_DIGITS = 3;

        private static final int GLASS_LINE = 0;
        private static final int PERSON_LINE = 1;
        private static final int STAY_LINE = 2;
        private static final int MOVES_LINE = 3;
        private static final int SEEN_LINE = 4;
        private static final int SAYS_LINE = 5;

        private final byte[] text;
        private int end = 0;
        private int sort = END;
        private int start = 0;
        private int behind = 0;
        private int number = 0;
        private int readNumber = 0;
        private int readPerson = 0;
        private Glass draft;
        int fault = 0;
        int faultPlace = 0;

        Reader(byte[] tape, Glass first) {
            text = tape;
            draft = first;
        }

        boolean read(int length, Glass into) {
            end = Math.min(length, text.length);
            draft = into;
            draft.clear();
            fault = 0;
            behind = 0;
            advance();
            for (int line = 0; line <= MOST_BYTES; line++) {
                if (!readLine()) {
                    return false;
                }
                if (sort == END) {
                    return draft.people > 0 || fail(LACKS);
                }
                if (sort != SEMICOLON) {
                    return fail(FORM);
                }
                advance();
            }
            return fail(FORM);
        }

        private boolean fail(int which) {
            fault = which;
            faultPlace = start;
            return false;
        }

        /** Goes to the next token; a run of more signs than a token has is none, from its first byte. */
        private void advance() {
            start = behind;
            while (start < end && text[start] == ' ') {
                start++;
            }
            behind = start;
            sort = END;
            if (start >= end) {
                return;
            }
            int sign = text[start];
            if (sign >= 'a' && sign <= 'z') {
                sort = scan('a', 'z') <= MOST_LETTERS ? WORD : NO_TOKEN;
            } else if (sign >= '0' && sign <= '9') {
                sort = scan('0', '9') <= MOST_DIGITS ? WHOLE : NO_TOKEN;
                number = sort == WHOLE ? valueOfDigits() : 0;
            } else {
                behind = start + 1;
                sort = sign == ';' ? SEMICOLON : sign == ',' ? COMMA : NO_TOKEN;
            }
        }

        private int scan(char least, char most) {
            while (behind < end && text[behind] >= least && text[behind] <= most) {
                behind++;
            }
            return behind - start;
        }

        private int valueOfDigits() {
            int value = 0;
            for (int i = start; i < behind; i++) {
                value = 10 * value + text[i] - '0';
            }
            return value;
        }

        private boolean tokenIs(String word) {
            if (sort != WORD || behind - start != word.length()) {
                return false;
            }
            for (int i = 0; i < word.length(); i++) {
                if (text[start + i] != word.charAt(i)) {
                    return false;
                }
            }
            return true;
        }

        private int sortOfLine() {
            if (tokenIs("glass")) {
                return GLASS_LINE;
            }
            if (tokenIs("person")) {
                return PERSON_LINE;
            }
            if (tokenIs("stay")) {
                return STAY_LINE;
            }
            if (tokenIs("moves")) {
                return MOVES_LINE;
            }
            if (tokenIs("seen")) {
                return SEEN_LINE;
            }
            return tokenIs("says") ? SAYS_LINE : NONE;
        }

        private int choice(String first, String second, String third, String fourth) {
            if (tokenIs(first)) {
                return 0;
            }
            if (tokenIs(second)) {
                return 1;
            }
            if (tokenIs(third)) {
                return 2;
            }
            return tokenIs(fourth) ? 3 : NONE;
        }

        private boolean readLine() {
            int line = sortOfLine();
            if (line < 0) {
                return fail(FORM);
            }
            if (line == GLASS_LINE && draft.days > 0) {
                return fail(AGAIN);
            }
            if (line != GLASS_LINE && draft.days == 0) {
                return fail(LACKS);
            }
            if (!hasRoom(line)) {
                return fail(MANY);
            }
            advance();
            switch (line) {
                case GLASS_LINE:
                    return glassLine();
                case PERSON_LINE:
                    return personLine(draft.person[draft.people]);
                case STAY_LINE:
                    return stayLine();
                case MOVES_LINE:
                    return movesLine(draft.moves);
                case SEEN_LINE:
                    return seenLine(draft.seeings);
                default:
                    return saysLine(draft.sayings);
            }
        }

        private boolean hasRoom(int line) {
            switch (line) {
                case PERSON_LINE:
                    return draft.people < MOST_PEOPLE;
                case MOVES_LINE:
                    return draft.moves < MOST_TOLD_MOVES;
                case SEEN_LINE:
                    return draft.seeings < MOST_SEEINGS;
                case SAYS_LINE:
                    return draft.sayings < MOST_SAYINGS;
                default:
                    return true;
            }
        }

        private boolean word(String due) {
            if (!tokenIs(due)) {
                return fail(FORM);
            }
            advance();
            return true;
        }

        private boolean whole(int least, int most) {
            if (sort != WHOLE) {
                return fail(FORM);
            }
            if (number < least || number > most) {
                return fail(BOUNDS);
            }
            readNumber = number;
            advance();
            return true;
        }

        private int toldPerson() {
            for (int p = 0; p < draft.people; p++) {
                if (isNamed(draft.person[p])) {
                    return p;
                }
            }
            return NONE;
        }

        private boolean isNamed(Person person) {
            if (behind - start != person.nameLength) {
                return false;
            }
            for (int i = 0; i < person.nameLength; i++) {
                if (text[start + i] != text[person.nameStart + i]) {
                    return false;
                }
            }
            return true;
        }

        private boolean toldName() {
            if (sort != WORD || sortOfLine() >= 0) {
                return fail(FORM);
            }
            readPerson = toldPerson();
            return readPerson >= 0 || fail(UNTOLD);
        }

        private boolean glassLine() {
            if (!word("days") || !whole(2, MOST_DAYS)) {
                return false;
            }
            draft.days = readNumber;
            if (!word("places") || !whole(2, MOST_PLACES)) {
                return false;
            }
            draft.places = readNumber;
            if (!word("colours") || !whole(1, MOST_COLOURS)) {
                return false;
            }
            draft.colours = readNumber;
            if (!word("reach") || !whole(0, 100)) {
                return false;
            }
            draft.reach = readNumber;
            return true;
        }

        private boolean personLine(Person person) {
            if (!newName(person) || !kindWord(person)) {
                return false;
            }
            if (!word("buys") || !habitWord(person)) {
                return false;
            }
            if (!word("likes") || !order(person)) {
                return false;
            }
            if (!word("keeps") || !whole(LEAST_KEEP, MOST_KEEP)) {
                return false;
            }
            person.keep = readNumber;
            if (!word("wears") || !whole(1, 9)) {
                return false;
            }
            person.wears = readNumber;
            if (!word("takes") || !takesWord(person)) {
                return false;
            }
            person.stays = 0;
            draft.people++;
            return true;
        }

        private boolean newName(Person person) {
            if (sort != WORD || sortOfLine() >= 0) {
                return fail(FORM);
            }
            if (toldPerson() >= 0) {
                return fail(AGAIN);
            }
            person.nameStart = start;
            person.nameLength = behind - start;
            advance();
            return true;
        }

        private boolean kindWord(Person person) {
            person.kind = choice("sure", "colour", "place", "messy");
            if (person.kind < 0) {
                return fail(FORM);
            }
            advance();
            return true;
        }

        private boolean habitWord(Person person) {
            person.habit = choice("first", "unlike", "rare", "");
            if (person.habit < 0) {
                return fail(FORM);
            }
            advance();
            return true;
        }

        private boolean takesWord(Person person) {
            person.takes = tokenIs("yes");
            if (!person.takes && !tokenIs("no")) {
                return fail(FORM);
            }
            advance();
            return true;
        }

        private boolean order(Person person) {
            if (sort != WORD) {
                return fail(FORM);
            }
            person.likes = 0;
            for (int i = start; i < behind; i++) {
                int colour = text[i] - 'a';
                if (colour >= draft.colours || person.isLiked(colour) || person.likes >= MOST_COLOURS) {
                    return fail(LETTERS);
                }
                person.order[person.likes] = colour;
                person.likes++;
            }
            advance();
            return true;
        }

        private boolean stayLine() {
            if (!toldName()) {
                return false;
            }
            Person person = draft.person[readPerson];
            if (person.stays >= MOST_STAYS) {
                return fail(MANY);
            }
            advance();
            int least = person.stays > 0 ? person.lastDay[person.stays - 1] + 1 : 0;
            if (!whole(least, draft.days - 1)) {
                return false;
            }
            int first = readNumber;
            if (!word("to") || !whole(first, draft.days - 1)) {
                return false;
            }
            draft.addStay(readPerson, first, readNumber);
            return true;
        }

        private boolean movesLine(int move) {
            if (!whole(0, draft.days - 1)) {
                return false;
            }
            draft.moveDay[move] = readNumber;
            if (!whole(0, draft.places - 1)) {
                return false;
            }
            int place = readNumber;
            draft.movePlace[move] = place;
            if (sort != COMMA) {
                return fail(FORM);
            }
            advance();
            if (sort == WHOLE && number == place) {
                return fail(AGAIN);
            }
            if (!whole(0, draft.places - 1)) {
                return false;
            }
            draft.moveOther[move] = readNumber;
            draft.moves++;
            return true;
        }

        private boolean seenLine(int seeing) {
            if (!whole(0, draft.days - 1)) {
                return false;
            }
            draft.seenDay[seeing] = readNumber;
            if (sort != WORD) {
                return fail(FORM);
            }
            if (behind - start != draft.places) {
                return fail(LETTERS);
            }
            for (int place = 0; place < draft.places; place++) {
                int colour = text[start + place] - 'a';
                boolean none = text[start + place] == 'z';
                if (!none && colour >= draft.colours) {
                    return fail(LETTERS);
                }
                draft.seen[seeing * MOST_PLACES + place] = none ? NOTHING : colour;
            }
            advance();
            draft.seeings++;
            return true;
        }

        private boolean saysLine(int saying) {
            if (!toldName()) {
                return false;
            }
            draft.sayer[saying] = readPerson;
            advance();
            if (!whole(0, draft.days - 1)) {
                return false;
            }
            draft.saidDay[saying] = readNumber;
            if (!whole(0, draft.places - 1)) {
                return false;
            }
            draft.saidPlace[saying] = readNumber;
            draft.sayings++;
            return true;
        }
    }

    /** What acts change: kinds, habits, keeps, moves by acts, and the seed. */
    private static final class Ways {
        final int[] kind = new int[MOST_PEOPLE];
        final int[] habit = new int[MOST_PEOPLE];
        final int[] keep = new int[MOST_PEOPLE];
        int moves = 0;
        final int[] moveDay = new int[MOST_ACT_MOVES];
        final int[] movePlace = new int[MOST_ACT_MOVES];
        final int[] moveOther = new int[MOST_ACT_MOVES];
        int seed = 0;

        void begin(Glass glass) {
            for (int p = 0; p < glass.people; p++) {
                kind[p] = glass.person[p].kind;
                habit[p] = glass.person[p].habit;
                keep[p] = glass.person[p].keep;
            }
            moves = 0;
            seed = 0;
        }

        void take(Ways other) {
            System.arraycopy(other.kind, 0, kind, 0, MOST_PEOPLE);
            System.arraycopy(other.habit, 0, habit, 0, MOST_PEOPLE);
            System.arraycopy(other.keep, 0, keep, 0, MOST_PEOPLE);
            System.arraycopy(other.moveDay, 0, moveDay, 0, MOST_ACT_MOVES);
            System.arraycopy(other.movePlace, 0, movePlace, 0, MOST_ACT_MOVES);
            System.arraycopy(other.moveOther, 0, moveOther, 0, MOST_ACT_MOVES);
            moves = other.moves;
            seed = other.seed;
        }

        void addMove(int day, int place, int other) {
            if (moves < MOST_ACT_MOVES) {
                moveDay[moves] = day;
                movePlace[moves] = place;
                moveOther[moves] = other;
                moves++;
            }
        }

        int draw() {
            seed = (75 * seed + 74) % SEED_MODULUS;
            return seed;
        }
    }

    /** The ways ahead of the latest acts, in a ring, and the ways by marks. */
    private static final class Memory {
        private final Ways[] ahead = new Ways[MOST_KEPT];
        private final Ways[] marked = new Ways[MOST_MARKS];
        private int next = 0;
        int kept = 0;
        int marks = 0;

        Memory() {
            for (int i = 0; i < MOST_KEPT; i++) {
                ahead[i] = new Ways();
            }
            for (int i = 0; i < MOST_MARKS; i++) {
                marked[i] = new Ways();
            }
        }

        void forget() {
            kept = 0;
            marks = 0;
        }

        void keepAhead(Ways ways) {
            ahead[next].take(ways);
            next = (next + 1) % MOST_KEPT;
            kept = Math.min(kept + 1, MOST_KEPT);
        }

        void takeBack(Ways ways) {
            next = (next + MOST_KEPT - 1) % MOST_KEPT;
            kept--;
            ways.take(ahead[next]);
        }

        int setMark(Ways ways) {
            marked[marks].take(ways);
            marks++;
            return marks - 1;
        }

        void goBack(int mark, Ways ways) {
            ways.take(marked[mark]);
            kept = 0;
        }
    }

    /** What stands where as the days go on, step by step; and all that is known of each brush. */
    private static final class Course {
        private Glass glass;
        private Ways ways;
        final int[] stands = new int[MOST_PLACES];
        final int[] own = new int[MOST_PEOPLE];
        final int[] spot = new int[MOST_PEOPLE];
        private final int[] put = new int[MOST_PEOPLE];
        final int[] used = new int[MOST_PEOPLE];
        private final int[] tally = new int[MOST_COLOURS];
        int bought = 0;
        final int[] owner = new int[MOST_BRUSHES];
        final int[] tint = new int[MOST_BRUSHES];
        final int[] since = new int[MOST_BRUSHES];
        final int[] gone = new int[MOST_BRUSHES];
        final int[] worn = new int[MOST_BRUSHES];
        private final int[] saved = new int[MOST_PLACES + 3 * MOST_PEOPLE];
        private int savedBought = 0;

        Course(Glass first, Ways firstBy) {
            glass = first;
            ways = firstBy;
        }

        void begin(Glass from, Ways by) {
            glass = from;
            ways = by;
            bought = 0;
            Arrays.fill(stands, NOTHING);
            Arrays.fill(own, NOTHING);
            Arrays.fill(spot, NOTHING);
            Arrays.fill(put, CUPBOARD);
            Arrays.fill(used, NOTHING);
        }

        /** Steps 1 to 3: who comes, who throws away, the moves. */
        void morning(int day) {
            for (int p = 0; p < glass.people; p++) {
                if ((glass.comes[day] & 1 << p) != 0) {
                    comeIn(p, day);
                }
            }
            for (int p = 0; p < glass.people; p++) {
                if ((glass.here[day] & 1 << p) != 0) {
                    renew(p, day);
                }
            }
            for (int i = 0; i < glass.moves; i++) {
                if (glass.moveDay[i] == day) {
                    exchange(glass.movePlace[i], glass.moveOther[i]);
                }
            }
            for (int i = 0; i < ways.moves; i++) {
                if (ways.moveDay[i] == day) {
                    exchange(ways.movePlace[i], ways.moveOther[i]);
                }
            }
        }

        /** Step 4: each who is here uses one. */
        void evening(int day) {
            for (int p = 0; p < glass.people; p++) {
                used[p] = (glass.here[day] & 1 << p) != 0 ? chosen(p) : NOTHING;
                if (used[p] >= 0) {
                    worn[used[p]] += glass.person[p].wears;
                    if (ways.kind[p] == MESSY_KIND && spot[p] < MOST_PLACES) {
                        stands[spot[p]] = NOTHING;
                        standSomewhere(p);
                    }
                }
            }
        }

        /** Step 5: who goes takes his along, or leaves it. */
        void night(int day) {
            for (int p = 0; p < glass.people; p++) {
                if ((glass.goes[day] & 1 << p) != 0 && glass.person[p].takes) {
                    lift(p);
                    spot[p] = WITH_HIM;
                }
            }
        }

        void exchange(int place, int other) {
            int brush = stands[place];
            stands[place] = stands[other];
            stands[other] = brush;
            if (stands[place] >= 0) {
                spot[owner[stands[place]]] = place;
            }
            if (stands[other] >= 0) {
                spot[owner[stands[other]]] = other;
            }
        }

        int tintAt(int place) {
            return stands[place] < 0 ? NOTHING : tint[stands[place]];
        }

        /** Keeps what going on needs; what a later buyer writes behind it is written anew. */
        void save() {
            System.arraycopy(stands, 0, saved, 0, MOST_PLACES);
            System.arraycopy(own, 0, saved, MOST_PLACES, MOST_PEOPLE);
            System.arraycopy(spot, 0, saved, MOST_PLACES + MOST_PEOPLE, MOST_PEOPLE);
            System.arraycopy(put, 0, saved, MOST_PLACES + 2 * MOST_PEOPLE, MOST_PEOPLE);
            savedBought = bought;
        }

        void restore() {
            System.arraycopy(saved, 0, stands, 0, MOST_PLACES);
            System.arraycopy(saved, MOST_PLACES, own, 0, MOST_PEOPLE);
            System.arraycopy(saved, MOST_PLACES + MOST_PEOPLE, spot, 0, MOST_PEOPLE);
            System.arraycopy(saved, MOST_PLACES + 2 * MOST_PEOPLE, put, 0, MOST_PEOPLE);
            bought = savedBought;
        }

        private void comeIn(int p, int day) {
            if (own[p] < 0) {
                buy(p, day);
            } else if (spot[p] >= MOST_PLACES) {
                standSomewhere(p);
                put[p] = spot[p];
            }
        }

        private void renew(int p, int day) {
            if (own[p] >= 0 && day - since[own[p]] >= ways.keep[p]) {
                gone[own[p]] = day;
                lift(p);
                own[p] = NOTHING;
                buy(p, day);
            }
        }

        private void buy(int p, int day) {
            if (bought >= MOST_BRUSHES) {
                return;
            }
            int brush = bought;
            bought++;
            owner[brush] = p;
            tint[brush] = pickColour(p);
            since[brush] = day;
            gone[brush] = NOTHING;
            worn[brush] = 0;
            own[p] = brush;
            standSomewhere(p);
            put[p] = spot[p];
        }

        private int pickColour(int p) {
            Person person = glass.person[p];
            int habit = ways.habit[p];
            int picked = person.order[0];
            if (habit == FIRST_HABIT) {
                return picked;
            }
            Arrays.fill(tally, 0);
            for (int place = 0; place < glass.places; place++) {
                if (stands[place] >= 0) {
                    tally[tint[stands[place]]]++;
                }
            }
            for (int i = 0; i < person.likes; i++) {
                int colour = person.order[i];
                if (habit == UNLIKE_HABIT && tally[colour] == 0) {
                    return colour;
                }
                if (habit != UNLIKE_HABIT && tally[colour] < tally[picked]) {
                    picked = colour;
                }
            }
            return picked;
        }

        private void lift(int p) {
            if (spot[p] >= 0 && spot[p] < MOST_PLACES) {
                stands[spot[p]] = NOTHING;
            }
        }

        private void standSomewhere(int p) {
            spot[p] = CUPBOARD;
            for (int place = 0; place < glass.places; place++) {
                if (stands[place] < 0) {
                    stands[place] = own[p];
                    spot[p] = place;
                    return;
                }
            }
        }

        private int chosen(int p) {
            int mine = own[p];
            if (mine < 0 || spot[p] >= MOST_PLACES) {
                return mine;
            }
            if (ways.kind[p] == COLOUR_KIND) {
                for (int place = 0; place < glass.places; place++) {
                    if (tintAt(place) == tint[mine]) {
                        return stands[place];
                    }
                }
            }
            if (ways.kind[p] == PLACE_KIND && put[p] < MOST_PLACES && stands[put[p]] >= 0) {
                return stands[put[p]];
            }
            return mine;
        }
    }

    /** What is noted of all evenings of a course of days. */
    private static final class Diary {
        final Course course;
        private final int[] stood = new int[MOST_DAYS * MOST_PLACES];
        private final int[] spots = new int[MOST_DAYS * MOST_PEOPLE];
        private final int[] usedBrush = new int[MOST_DAYS * MOST_PEOPLE];
        private final int[] tally = new int[MOST_COLOURS];
        final int[] sharedOn = new int[MOST_DAYS];
        final int[] alikeOn = new int[MOST_DAYS];
        final int[] suffered = new int[MOST_PEOPLE];
        final int[] sinned = new int[MOST_PEOPLE];
        int sharedUses = 0;
        int daysAlike = 0;
        int mostOfOneColour = 0;
        int firstFull = NOTHING;

        Diary(Course of) {
            course = of;
        }

        void write(Glass glass, Ways ways) {
            Arrays.fill(suffered, 0);
            Arrays.fill(sinned, 0);
            sharedUses = 0;
            daysAlike = 0;
            mostOfOneColour = 0;
            firstFull = NOTHING;
            course.begin(glass, ways);
            for (int day = 0; day < glass.days; day++) {
                course.morning(day);
                course.evening(day);
                notePlaces(glass, day);
                notePeople(glass, day);
                course.night(day);
            }
        }

        int brushAt(int day, int place) {
            return stood[day * MOST_PLACES + place];
        }

        int tintAt(int day, int place) {
            int brush = brushAt(day, place);
            return brush < 0 ? NOTHING : course.tint[brush];
        }

        int spotOf(int day, int p) {
            return spots[day * MOST_PEOPLE + p];
        }

        int usedBy(int day, int p) {
            return usedBrush[day * MOST_PEOPLE + p];
        }

        int wrongPlace(Glass glass, int seeing) {
            for (int place = 0; place < glass.places; place++) {
                if (tintAt(glass.seenDay[seeing], place) != glass.seen[seeing * MOST_PLACES + place]) {
                    return place;
                }
            }
            return NOTHING;
        }

        private void notePlaces(Glass glass, int day) {
            Arrays.fill(tally, 0);
            int alike = 0;
            for (int place = 0; place < glass.places; place++) {
                int brush = course.stands[place];
                stood[day * MOST_PLACES + place] = brush;
                if (brush >= 0) {
                    int tint = course.tint[brush];
                    alike += tally[tint];
                    tally[tint]++;
                    mostOfOneColour = Math.max(mostOfOneColour, tally[tint]);
                }
            }
            alikeOn[day] = alike;
            daysAlike += alike > 0 ? 1 : 0;
        }

        private void notePeople(Glass glass, int day) {
            int shared = 0;
            for (int p = 0; p < glass.people; p++) {
                int brush = course.used[p];
                spots[day * MOST_PEOPLE + p] = course.spot[p];
                usedBrush[day * MOST_PEOPLE + p] = brush;
                if (brush >= 0 && course.owner[brush] != p) {
                    shared++;
                    sinned[p]++;
                    suffered[course.owner[brush]]++;
                }
                if (course.spot[p] == CUPBOARD && firstFull < 0) {
                    firstFull = day;
                }
            }
            sharedOn[day] = shared;
            sharedUses += shared;
        }
    }

    /** The moves of which each, made as one more, makes all seeings right. */
    private static final class Explanations {
        private static final int MOST = MOST_DAYS * MOST_PLACES * (MOST_PLACES - 1) / 2;

        private final Course course;
        private final int[] found = new int[MOST];
        int count = 0;
        boolean searched = false;

        Explanations(Course to) {
            course = to;
        }

        /** For a glass of which some seeing is wrong; searches once until something changes. */
        void search(Glass glass, Ways ways) {
            if (searched) {
                return;
            }
            searched = true;
            count = 0;
            course.begin(glass, ways);
            int last = glass.lastSeenDay();
            for (int day = 0; day <= last; day++) {
                course.morning(day);
                course.save();
                for (int place = 0; place < glass.places; place++) {
                    for (int other = place + 1; other < glass.places; other++) {
                        course.exchange(place, other);
                        if (endsRight(glass, day, last) && count < MOST) {
                            found[count] = (day * MOST_PLACES + place) * MOST_PLACES + other;
                            count++;
                        }
                        course.restore();
                    }
                }
                course.evening(day);
                if (!isRight(glass, day)) {
                    // a later move leaves this evening as it is
                    return;
                }
                course.night(day);
            }
        }

        int part(int i, int what) {
            int packed = found[i];
            if (what == 0) {
                return packed / (MOST_PLACES * MOST_PLACES);
            }
            return (what == 1 ? packed / MOST_PLACES : packed) % MOST_PLACES;
        }

        /** Goes on from the moves of a day to the last that was seen, while all is as seen. */
        private boolean endsRight(Glass glass, int from, int last) {
            for (int day = from; day <= last; day++) {
                if (day > from) {
                    course.morning(day);
                }
                course.evening(day);
                if (!isRight(glass, day)) {
                    return false;
                }
                course.night(day);
            }
            return true;
        }

        private boolean isRight(Glass glass, int day) {
            for (int seeing = 0; seeing < glass.seeings; seeing++) {
                for (int place = 0; place < glass.places && glass.seenDay[seeing] == day; place++) {
                    if (course.tintAt(place) != glass.seen[seeing * MOST_PLACES + place]) {
                        return false;
                    }
                }
            }
            return true;
        }
    }

    /** Ways to give people of an evening one place each, of a colour that each likes. */
    private static final class Pairings {
        private int people = 0;
        private final int[] who = new int[MOST_PEOPLE];
        private final int[] choices = new int[MOST_PEOPLE];
        private final int[] truth = new int[MOST_PEOPLE];
        private final int[] ways = new int[1 << MOST_PLACES];
        private int places = 0;

        void gather(Glass glass, Diary diary, int day) {
            places = glass.places;
            people = 0;
            for (int p = 0; p < glass.people; p++) {
                int spot = diary.spotOf(day, p);
                if ((glass.here[day] & 1 << p) != 0 && spot >= 0 && spot < MOST_PLACES) {
                    who[people] = p;
                    truth[people] = 1 << spot;
                    choices[people] = 0;
                    for (int place = 0; place < places; place++) {
                        if (glass.person[p].isLiked(diary.tintAt(day, place))) {
                            choices[people] |= 1 << place;
                        }
                    }
                    people++;
                }
            }
        }

        /** How many there are if some, by bits of their order here, are known to have their own. */
        int count(int asked) {
            int all = 0;
            ways[0] = 1;
            if (people == 0) {
                return 1;
            }
            // the people up to one fill just the sets of that many places
            for (int filled = 1; filled < 1 << places; filled++) {
                int latest = Integer.bitCount(filled) - 1;
                ways[filled] = 0;
                if (latest < people) {
                    int open = filled & ((asked & 1 << latest) != 0 ? truth[latest] : choices[latest]);
                    for (int place = 0; place < places; place++) {
                        if ((open & 1 << place) != 0) {
                            ways[filled] += ways[filled ^ 1 << place];
                        }
                    }
                    all += latest == people - 1 ? ways[filled] : 0;
                }
            }
            return all;
        }

        int possible(int p) {
            int bits = 0;
            for (int i = 0; i < people; i++) {
                if (who[i] == p) {
                    int open = choices[i];
                    for (int place = 0; place < places; place++) {
                        choices[i] = open & 1 << place;
                        if (choices[i] != 0 && count(0) > 0) {
                            bits |= 1 << place;
                        }
                    }
                    choices[i] = open;
                }
            }
            return bits;
        }

        int fewestToAsk() {
            int best = (1 << people) - 1;
            for (int asked = 0; asked < 1 << people; asked++) {
                if (Integer.bitCount(asked) < Integer.bitCount(best) && count(asked) == 1) {
                    best = asked;
                }
            }
            int bits = 0;
            for (int i = 0; i < people; i++) {
                bits |= (best & 1 << i) != 0 ? 1 << who[i] : 0;
            }
            return bits;
        }
    }

    /** The fewest colours so that no two who are ever here on one day have one. */
    private static final class Painting {
        private final int[] meets = new int[MOST_PEOPLE];
        final int[] paintOf = new int[MOST_PEOPLE];
        int fewest = 0;

        void paint(Glass glass) {
            for (int p = 0; p < glass.people; p++) {
                meets[p] = 0;
                for (int day = 0; day < glass.days; day++) {
                    meets[p] |= (glass.here[day] & 1 << p) != 0 ? glass.here[day] : 0;
                }
            }
            fewest = Math.max(1, glass.crowd());
            while (!finish(meets, paintOf, glass.people, fewest, 0) && fewest < glass.people) {
                fewest++;
            }
        }

        /** Paints from a person on, the least colours first; a new colour is always the next one. */
        private static boolean finish(int[] meets, int[] paintOf, int people, int colours, int p) {
            if (p >= people || p >= MOST_PEOPLE) {
                return true;
            }
            int taken = 0;
            int next = 0;
            for (int q = 0; q < p; q++) {
                taken |= (meets[p] & 1 << q) != 0 ? 1 << paintOf[q] : 0;
                next = Math.max(next, paintOf[q] + 1);
            }
            for (int colour = 0; colour <= next && colour < colours; colour++) {
                if ((taken & 1 << colour) == 0) {
                    paintOf[p] = colour;
                    if (finish(meets, paintOf, people, colours, p + 1)) {
                        return true;
                    }
                }
            }
            return false;
        }
    }

    /** How likely what stands in a place stands there some days later. */
    private static final class Drift {
        private final long[] chance = new long[MOST_PLACES];
        private final long[] later = new long[MOST_PLACES];
        long above = 0;
        long below = 1;

        void after(Glass glass, int place, int days) {
            Arrays.fill(chance, 0);
            chance[place] = 1;
            long whole = 100L * (glass.places - 1);
            below = 1;
            for (int day = 0; day < days; day++) {
                reachIn(glass, whole);
                below *= whole;
            }
            above = chance[place];
            long common = commonDivisor(above, below);
            if (common > 0) {
                above /= common;
                below /= common;
            }
        }

        private void reachIn(Glass glass, long whole) {
            int last = glass.places - 1;
            for (int place = 0; place <= last; place++) {
                later[place] = chance[place] * whole;
            }
            for (int place = 0; place < last; place++) {
                long carried = glass.reach * (chance[place + 1] - chance[place]);
                later[place] += carried;
                later[place + 1] -= carried;
            }
            System.arraycopy(later, 0, chance, 0, MOST_PLACES);
        }

        private static long commonDivisor(long one, long other) {
            long a = one;
            long b = other;
            // the lesser number at least halves in two rounds, so a long has far fewer than 200
            for (int round = 0; round < 200 && b != 0; round++) {
                long rest = a % b;
                a = b;
                b = rest;
            }
            return a;
        }
    }
}
