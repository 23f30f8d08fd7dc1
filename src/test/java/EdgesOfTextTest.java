import java.nio.charset.StandardCharsets;
import java.util.ArrayList;
import java.util.List;

/** Terms I and promises 1 to 5, a sentence at a time. In texts the sign ^ marks where the fault is due (else: the end). */
public final class EdgesOfTextTest {
    private static final String HEAD = "glass days 5 places 2 colours 2 reach 0";
    private static final String REST = " sure buys first likes a keeps 3 wears 1 takes no";
    private static final String ONE = HEAD + ";person p" + REST;
    /** Every sort of line, every kind of token. */
    private static final String WHOLE_TEXT = "glass days 6 places 3 colours 3 reach 50"
        + ";person m sure buys first likes ab keeps 3 wears 2 takes no"
        + ";person n messy buys rare likes bca keeps 30 wears 9 takes yes"
        + ";stay m 0 to 1;stay n 1 to 2;stay m 3 to 5;moves 3 0,1;seen 0 azz;says m 0 0";
    private static final String[] LINE_WORDS = {"glass", "person", "stay", "moves", "seen", "says"};

    public static void main(String[] args) {
        tapeIsFull();
        highestFirst();
        blanks();
        words();
        wholes();
        singleSigns();
        bytesThatBeginNothing();
        textThatEnds();
        glassBounds();
        personBounds();
        personWords();
        orders();
        stays();
        moves();
        rows();
        says();
        room();
        names();
        namesToldOnceAhead();
        faultsFromTheLeft();
        leastNumberOfAPlace();
        lacks();
        newObject();
        glassCall();
        glassAnew();
        glassFromNowOn();
        faultCall();
        whereCall();
        Check.end();
    }

    private static void good(String text) {
        BrushGlass x = new BrushGlass();
        Check.feed(x, text);
        int people = x.glass(text.length());
        Check.due("glass of " + text + " is refused, fault " + x.fault() + " at " + x.where(), people < 1, false);
    }

    private static void fault(int number, String marked) {
        int place = marked.indexOf('^');
        String text = marked.replace("^", "");
        faultAt(number, text, place < 0 ? text.length() : place);
    }

    private static void faultAt(int number, String text, int place) {
        BrushGlass x = new BrushGlass();
        Check.feed(x, text);
        Check.refused("glass of " + text, x, x.glass(text.length()), 4);
        Check.due("fault of " + text, x.fault(), number);
        Check.due("where of " + text, x.where(), place);
    }

    private static int feedBlanks(BrushGlass x) {
        return x.feed(0x20202020, 0x20202020, 0x20202020, 0x20202020, 0x20202020);
    }

    private static void tapeIsFull() {
        Check.on("THE TAPE has 1,000 bytes");
        BrushGlass x = new BrushGlass();
        for (int i = 1; i <= 50; i++) {
            Check.due("feed " + i, feedBlanks(x), 20 * i);
        }
        Check.due("size(11)", x.size(11), 1000);
        Check.on("NONE, and none comes, if there would be more than 1,000");
        Check.due("feed 51", feedBlanks(x), -1);
        Check.due("feed 52", x.feed(1, 2, 3, 4, 5), -1);
        Check.due("size(11)", x.size(11), 1000);
        Check.on("none comes: a text of 1,000 bytes is as it was fed");
        BrushGlass y = new BrushGlass();
        String text = ONE.replace("person", " ".repeat(1000 - ONE.length()) + "person");
        Check.feed(y, text);
        Check.due("feed of more", y.feed(0x7a7a7a7a, 0x7a7a7a7a, 0x7a7a7a7a, 0x7a7a7a7a, 0x7a7a7a7a), -1);
        Check.refused("glass(1001)", y, y.glass(1001), 2);
        Check.fine("glass(1000)", y, y.glass(1000), 1);
        Check.on("it is empty then");
        for (int i = 1; i <= 50; i++) {
            Check.due("feed " + i + " behind glass", feedBlanks(y), 20 * i);
        }
        Check.due("feed 51 behind glass", feedBlanks(y), -1);
    }

    private static void highestFirst() {
        Check.on("of each number the highest first");
        // the text with its number's bytes the other way round has its first fault in the first byte
        BrushGlass x = new BrushGlass();
        Check.due("feed", x.feed(0x676c6173, 0x73206461, 0x79732032, 0x20706c61, 0x63657320), 20);
        Check.due("feed", x.feed(0x3220636f, 0x6c6f7572, 0x73203120, 0x72656163, 0x682030ff), 40);
        Check.refused("glass(39)", x, x.glass(39), 4);
        Check.due("no person at the end", x.fault(), 6);
        Check.due("its place", x.where(), 39);
        Check.on("behind THE TAPE");
        x.feed(0x676c6173, 0x73206461, 0x79732032, 0x20706c61, 0x63657320);
        x.feed(0x80808080, 0, 0, 0, 0);
        x.glass(40);
        Check.due("the second twenty begin with a byte above 127: fault", x.fault(), 1);
        Check.due("where", x.where(), 20);
    }

    private static void blanks() {
        Check.on("blanks, 32, part TOKENS and mean nothing else");
        good("  " + ONE.replace(" ", "   ").replace(";", " ; ") + "  ");
        good("glass days5places2colours2reach0;person p sure buys first likes a keeps3wears1takes no");
        good(ONE + ";moves 0 0 , 1;moves 0 1 ,0;seen 0az");
        good(ONE + ";stay p0to1;says p0 1;stay p 2 to 2;stay   p3 to 3");
        fault(1, "^gla ss days 5");
        fault(4, HEAD + ";person p sure buys first likes a keeps ^1 0");
        fault(1, ONE + ";stay p 0 to 1 ^2");
        for (char sign : new char[] {0, 9, 10, 13, 31, 33, 160, 255}) {
            fault(1, "glass days 5^" + sign + "places 2");
            fault(1, "^" + sign + ONE);
            fault(1, ONE + "^" + sign);
        }
    }

    private static void words() {
        Check.on("WORDS of 1 to 8 small letters that stand together");
        good(HEAD + ";person a" + REST + ";stay a 0 to 1");
        good(HEAD + ";person abcdefgh" + REST + ";stay abcdefgh 0 to 1");
        good(HEAD + ";person zzzzzzzz" + REST + ";person zzzzzzz" + REST);
        fault(1, HEAD + ";person ^abcdefghi" + REST);
        fault(1, HEAD + ";person ^abcdefghabcdefgh" + REST);
        fault(1, HEAD + ";^personsss p");
        fault(1, ONE + ";seen 0 ^abababababa");
        Check.on("small letters");
        for (char sign : new char[] {'A', 'Z', '`', '{', '_', '\''}) {
            fault(1, HEAD + ";person ^" + sign + REST);
            fault(1, HEAD + ";person p^" + sign + REST);
        }
    }

    private static void wholes() {
        Check.on("WHOLES of 1 to 3 digits that do");
        good("glass days 005 places 02 colours 002 reach 100;person p" + REST);
        good("glass days 5 places 2 colours 2 reach 000;person p" + REST);
        fault(1, "glass days ^0005 places 2");
        fault(1, "glass days ^1000 places 2");
        fault(1, "glass days ^00000000000000005 places 2");
        fault(1, ONE + ";moves 0 0,^0001");
        for (char sign : new char[] {'/', ':', '-', '+', '.'}) {
            fault(1, "glass days ^" + sign + "5 places 2");
            fault(1, "glass days 5^" + sign + " places 2");
        }
    }

    private static void singleSigns() {
        Check.on("single ones of ; ,");
        fault(1, HEAD + ";^;person p" + REST);
        fault(1, HEAD + "^,person p" + REST);
        fault(1, ONE + ";moves 0 0,^,1");
        fault(1, ONE + ";moves 0 0^;1");
        fault(1, ONE + ";moves 0 0 ^1");
        fault(1, ONE + ";moves 0^,0,1");
        for (char sign : new char[] {':', '<', '+', '-'}) {
            fault(1, HEAD + "^" + sign + "person p" + REST);
        }
    }

    private static void bytesThatBeginNothing() {
        Check.on("1 FORM: the first byte that begins no TOKEN, or TOKEN with which no GLASS goes on");
        for (int sign = 0; sign < 256; sign++) {
            if (sign == ' ') {
                continue;
            }
            if (sign == ';') {
                faultAt(1, ONE + " ;", ONE.length() + 2);
            } else {
                faultAt(1, ONE + " " + (char) sign, ONE.length() + 1);
            }
        }
        List<Integer> starts = starts();
        for (int start : starts) {
            String ahead = WHOLE_TEXT.substring(0, start);
            String token = WHOLE_TEXT.substring(start, endOf(start));
            String behind = WHOLE_TEXT.substring(start + token.length());
            faultAt(1, ahead + "A" + behind, start);
            faultAt(1, ahead + "\u00e9" + token + behind, start);
            faultAt(1, ahead + " " + (sort(token.charAt(0)) == 0 ? "5" : "zz") + " " + behind, start + 1);
            faultAt(1, ahead + (token.equals(";") ? "," : ";") + behind, start);
        }
    }

    private static List<Integer> starts() {
        List<Integer> starts = new ArrayList<>();
        for (int i = 0; i < WHOLE_TEXT.length(); i = endOf(i)) {
            if (WHOLE_TEXT.charAt(i) != ' ') {
                starts.add(i);
            }
        }
        return starts;
    }

    private static int endOf(int start) {
        int sort = sort(WHOLE_TEXT.charAt(start));
        int end = start + 1;
        while (sort < 2 && end < WHOLE_TEXT.length() && sort(WHOLE_TEXT.charAt(end)) == sort) {
            end++;
        }
        return end;
    }

    private static int sort(char sign) {
        return sign >= 'a' && sign <= 'z' ? 0 : sign >= '0' && sign <= '9' ? 1 : 2;
    }

    private static void textThatEnds() {
        Check.on("(the end: its place)");
        good(WHOLE_TEXT);
        for (int start : starts()) {
            String cut = WHOLE_TEXT.substring(0, start);
            boolean lineIsWhole = WHOLE_TEXT.charAt(start) == ';';
            if (lineIsWhole && start > 50) {
                good(cut);
            } else {
                fault(lineIsWhole ? 6 : 1, cut);
                fault(lineIsWhole ? 6 : 1, cut + "   ");
            }
        }
        fault(1, "");
        fault(1, " ");
        fault(1, " ".repeat(1000));
    }

    private static String glass(String days, String places, String colours, String reach) {
        return "glass days " + days + " places " + places + " colours " + colours + " reach " + reach + ";person p" + REST;
    }

    private static void glassBounds() {
        Check.on("(2 .. 30, 2 .. 8, 1 .. 6: a, b, .. of these, 0 .. 100)");
        good(glass("2", "2", "1", "0"));
        good(glass("30", "8", "6", "100"));
        for (String wrong : new String[] {"0", "1", "31", "100", "999"}) {
            fault(4, glass("^" + wrong, "2", "1", "0"));
        }
        for (String wrong : new String[] {"0", "1", "9", "10", "999"}) {
            fault(4, glass("2", "^" + wrong, "1", "0"));
        }
        for (String wrong : new String[] {"0", "7", "26", "999"}) {
            fault(4, glass("2", "2", "^" + wrong, "0"));
        }
        for (String wrong : new String[] {"101", "110", "999"}) {
            fault(4, glass("2", "2", "1", "^" + wrong));
        }
    }

    private static String keeping(String keeps, String wears) {
        return HEAD + ";person p sure buys first likes a keeps " + keeps + " wears " + wears + " takes no";
    }

    private static void personBounds() {
        Check.on("3 .. 30 days, 1 .. 9");
        good(keeping("3", "1"));
        good(keeping("30", "9"));
        for (String wrong : new String[] {"0", "2", "31", "999"}) {
            fault(4, keeping("^" + wrong, "1"));
        }
        for (String wrong : new String[] {"0", "10", "999"}) {
            fault(4, keeping("3", "^" + wrong));
        }
    }

    private static void personWords() {
        Check.on("KIND: sure, colour, place, or messy; HABIT: first, unlike, or rare; ANSWER: yes, or no");
        String[] kinds = {"sure", "colour", "place", "messy"};
        String[] habits = {"first", "unlike", "rare"};
        for (int kind = 0; kind < 4; kind++) {
            for (int habit = 0; habit < 3; habit++) {
                for (int takes = 0; takes < 2; takes++) {
                    String rest = " likes a keeps 3 wears 1 takes " + (takes == 1 ? "yes" : "no");
                    BrushGlass x = Check.of(HEAD + ";person p " + kinds[kind] + " buys " + habits[habit] + rest);
                    Check.due("kind " + kinds[kind], x.person(0, 0), kind);
                    Check.due("habit " + habits[habit], x.person(0, 1), habit);
                    Check.due("takes " + takes, x.person(0, 4), takes);
                }
            }
        }
        for (String wrong : new String[] {"first", "yes", "sur", "suree", "places", "colours"}) {
            fault(1, HEAD + ";person p ^" + wrong + " buys first likes a keeps 3 wears 1 takes no");
        }
        for (String wrong : new String[] {"sure", "messy", "rar", "rarer"}) {
            fault(1, HEAD + ";person p sure buys ^" + wrong + " likes a keeps 3 wears 1 takes no");
        }
        for (String wrong : new String[] {"sure", "ye", "n", "nono", "yess"}) {
            fault(1, HEAD + ";person p sure buys first likes a keeps 3 wears 1 takes ^" + wrong);
        }
    }

    private static String liking(int colours, String order) {
        return "glass days 2 places 2 colours " + colours + " reach 0;person p sure buys first likes " + order
            + " keeps 3 wears 1 takes no";
    }

    private static void orders() {
        Check.on("ORDER: a WORD of colours, unlike; 7 an ORDER with a letter that is none such, with one twice; at it");
        String letters = "abcdefg";
        for (int colours = 1; colours <= 6; colours++) {
            good(liking(colours, letters.substring(0, colours)));
            good(liking(colours, letters.substring(colours - 1, colours)));
            fault(7, liking(colours, "^" + letters.charAt(colours)));
            fault(7, liking(colours, "^" + letters.substring(0, colours + 1)));
            fault(7, liking(colours, "^z"));
            fault(7, liking(colours, "^aa"));
            fault(7, liking(colours, "^" + letters.substring(0, colours) + "a"));
        }
        fault(7, liking(6, "^abcdefff"));
        fault(1, liking(6, "^abcdeffff"));
    }

    private static void stays() {
        Check.on("stay PERSON WHOLE to WHOLE (days, the second not below the first)");
        good(ONE + ";stay p 0 to 0");
        good(ONE + ";stay p 4 to 4");
        good(ONE + ";stay p 0 to 4");
        fault(4, ONE + ";stay p ^5 to 5");
        fault(4, ONE + ";stay p 0 to ^5");
        fault(4, ONE + ";stay p 3 to ^2");
        fault(4, ONE + ";stay p 4 to ^0");
        Check.on("above all days of his stays told ahead");
        good(ONE + ";stay p 0 to 1;stay p 2 to 4");
        good(ONE + ";stay p 0 to 0;stay p 1 to 1;stay p 4 to 4");
        fault(4, ONE + ";stay p 0 to 1;stay p ^1 to 4");
        fault(4, ONE + ";stay p 2 to 3;stay p ^0 to 1");
        fault(4, ONE + ";stay p 0 to 0;stay p 2 to 3;stay p ^1 to 1");
        fault(4, ONE + ";stay p 0 to 4;stay p ^4 to 4");
        good(ONE + ";person q" + REST + ";stay p 2 to 4;stay q 0 to 3;stay q 4 to 4");
    }

    private static void moves() {
        Check.on("moves WHOLE WHOLE, WHOLE (a day; two places, unlike)");
        good(ONE + ";moves 0 0,1;moves 4 1,0");
        fault(4, ONE + ";moves ^5 0,1");
        fault(4, ONE + ";moves 0 ^2,1");
        fault(4, ONE + ";moves 0 0,^2");
        Check.on("3 a second place of moves that is the first; at it");
        fault(3, ONE + ";moves 0 0,^0");
        fault(3, ONE + ";moves 4 1,^1");
        fault(3, ONE + ";moves 4 1,^001");
        String eight = ONE.replace("places 2", "places 8");
        good(eight + ";moves 0 0,7;moves 0 7,6");
        fault(4, eight + ";moves 0 ^8,0");
        fault(4, eight + ";moves 0 7,^8");
        fault(3, eight + ";moves 0 7,^7");
    }

    private static void rows() {
        Check.on("seen WHOLE ROW (a day; ROW: a WORD of as many letters as places, each a colour, or z: none)");
        good(ONE + ";seen 0 zz;seen 4 ab");
        fault(4, ONE + ";seen ^5 zz");
        Check.on("7 a ROW with a letter that is none such, of more or fewer letters; at it");
        fault(7, ONE + ";seen 0 ^z");
        fault(7, ONE + ";seen 0 ^zzz");
        fault(7, ONE + ";seen 0 ^zzzzzzzz");
        fault(7, ONE + ";seen 0 ^ac");
        fault(7, ONE + ";seen 0 ^ca");
        fault(7, ONE + ";seen 0 ^ya");
        fault(7, ONE + ";seen 0 ^azz");
        String eight = ONE.replace("places 2", "places 8").replace("colours 2", "colours 6");
        good(eight + ";seen 0 fedcbazf");
        good(eight + ";seen 0 ffffffff");
        fault(7, eight + ";seen 0 ^fedcbaz");
        fault(7, eight + ";seen 0 ^fedcbagz");
        fault(1, eight + ";seen 0 ^fedcbazff");
    }

    private static void says() {
        Check.on("says PERSON WHOLE WHOLE (a day, a place)");
        good(ONE + ";says p 0 0;says p 4 1");
        fault(4, ONE + ";says p ^5 0");
        fault(4, ONE + ";says p 0 ^2");
        String eight = ONE.replace("places 2", "places 8").replace("days 5", "days 30");
        good(eight + ";says p 29 7");
        fault(4, eight + ";says p ^30 7");
        fault(4, eight + ";says p 29 ^8");
    }

    private static String people(int count) {
        StringBuilder text = new StringBuilder(HEAD);
        for (int p = 0; p < count; p++) {
            text.append(";person ").append((char) ('a' + p)).append(REST);
        }
        return text.toString();
    }

    private static void room() {
        Check.on("5 MANY: a LINE more of its sort than there is room for, at its first WORD");
        Check.due("up to 7 people", Check.of(people(7)).size(4), 7);
        fault(5, people(7) + ";^person h" + REST);
        fault(5, people(7) + ";^person");
        roomOf("moves 4 1,0", 10, 5);
        roomOf("seen 4 zz", 6, 6);
        roomOf("says p 4 0", 8, 7);
        good(people(7) + ";moves 0 0,1".repeat(10) + ";seen 0 zz".repeat(6) + ";says a 0 0".repeat(8));
        Check.on("up to 3 of one; 5 a fourth stay: at PERSON");
        String three = ";stay p 0 to 0;stay p 1 to 1;stay p 2 to 2";
        Check.due("three stays", Check.of(ONE + three).person(0, 5), 3);
        fault(5, ONE + three + ";stay ^p 3 to 3");
        fault(5, ONE + three + ";stay ^p");
        fault(5, ONE + three + ";stay ^p 99 99");
        String other = ";stay q 0 to 0;stay q 2 to 2;stay q 4 to 4";
        good(ONE + ";person q" + REST + three + other);
        fault(5, ONE + ";person q" + REST + three + other + ";stay ^q 0 to 0");
    }

    private static void roomOf(String line, int most, int what) {
        String text = ONE + (";" + line).repeat(most);
        Check.due("as many as there is room for of " + line, Check.of(text).size(what), most);
        fault(5, text + ";^" + line);
        fault(5, text + ";^" + line.substring(0, line.indexOf(' ')));
        fault(5, text + ";^" + line.substring(0, line.indexOf(' ')) + " 999 A");
    }

    private static void names() {
        Check.on("NAMES are WORDS but glass, person, stay, moves, seen, says");
        for (String word : LINE_WORDS) {
            fault(1, HEAD + ";person ^" + word + REST);
            fault(1, ONE + ";stay ^" + word + " 0 to 1");
            fault(1, ONE + ";says ^" + word + " 0 1");
            good(HEAD + ";person " + word.substring(1) + REST);
            good(HEAD + ";person " + word + "s" + REST + ";stay " + word + "s 0 to 1");
        }
        String[] others = {"days", "places", "place", "colours", "colour", "reach", "sure", "messy", "buys", "first", "unlike",
            "rare", "likes", "keeps", "wears", "takes", "yes", "no", "to", "z"};
        for (String word : others) {
            good(HEAD + ";person " + word + REST + ";stay " + word + " 0 to 1;says " + word + " 0 1");
        }
    }

    private static void namesToldOnceAhead() {
        Check.on("3 a NAME told again; at it");
        fault(3, ONE + ";person ^p" + REST);
        fault(3, people(6) + ";person ^a messy");
        fault(3, people(6) + ";person ^f");
        good(HEAD + ";person ab" + REST + ";person a" + REST + ";person abc" + REST + ";person b" + REST);
        Check.on("2 a NAME that isn't told; at it");
        fault(2, ONE + ";stay ^q 0 to 1");
        fault(2, ONE + ";says ^q 0 1");
        fault(2, HEAD + ";stay ^p 0 to 1;person p" + REST);
        fault(2, HEAD + ";says ^p 0 1;person p" + REST);
        fault(2, HEAD + ";person pp" + REST + ";stay ^p 0 to 1");
        fault(2, ONE + ";stay ^pp 0 to 1");
        good(HEAD + ";person p" + REST + ";stay p 0 to 1;person q" + REST + ";stay q 0 to 1");
    }

    private static void faultsFromTheLeft() {
        Check.on("FAULTS, the first that is met from the left");
        fault(4, "glass days ^1 places 9 colours 7 reach 101 A");
        fault(1, "glass days 5 ^A places 9");
        fault(7, HEAD + ";person p sure buys first likes ^c keeps 2");
        fault(4, HEAD + ";person p sure buys first likes a keeps ^2 wears 0");
        fault(3, ONE + ";person ^p odd");
        fault(1, ONE + ";person q ^odd buys odd");
        fault(2, ONE + ";stay ^q 9 to 9");
        fault(4, ONE + ";stay p ^9 until 9");
        fault(1, ONE + ";stay p 3 ^until 9");
        fault(4, ONE + ";moves 0 ^9,9");
        fault(3, ONE + ";moves 0 1,^1;glass");
        fault(4, ONE + ";seen ^9 abc");
        fault(5, ONE + ";seen 0 zz".repeat(6) + ";^seen 9 abc;\u00e9");
        fault(6, "^stay p 9 to 9;glass");
    }

    private static void leastNumberOfAPlace() {
        Check.on("of one place the least number");
        // the end is no line (1), and there is no glass, and no person (6)
        fault(1, "");
        fault(1, "   ");
        // the end, where a line is due (1), without a person (6)
        fault(1, HEAD + ";");
        fault(1, HEAD + ";person");
        fault(1, "glass days 5");
        // a word that is no name (1) and isn't told (2)
        fault(1, ONE + ";stay ^seen 0 to 1");
        fault(1, ONE + ";stay ^abcdefghi 0 to 1");
        // too many digits (1), and out of bounds (4)
        fault(1, "glass days ^9999 places 2");
        // too many letters (1), and none of the colours (7)
        fault(1, HEAD + ";person p sure buys first likes ^zzzzzzzzz");
        fault(1, ONE + ";seen 0 ^yyyyyyyyy");
        // a second glass is told again (3), whatever follows
        fault(3, ONE + ";^glass days 99");
        fault(3, HEAD + ";^glass");
    }

    private static void lacks() {
        Check.on("6 LACKS: any LINE ahead of the glass; at its WORD");
        for (String word : LINE_WORDS) {
            if (!word.equals("glass")) {
                fault(6, "^" + word);
                fault(6, "  ^" + word + " " + word + ";" + ONE);
                fault(6, "^" + word + " A;" + ONE);
            }
        }
        fault(6, "^person p" + REST + ";" + HEAD);
        Check.on("6 LACKS: at the end: no person");
        fault(6, HEAD);
        fault(6, HEAD + " ");
        fault(6, HEAD + ";moves 0 0,1;seen 0 zz");
        good(HEAD + ";moves 0 0,1;seen 0 zz;person p" + REST);
    }

    private static void newObject() {
        Check.on("BrushGlass(): No GLASS.");
        BrushGlass x = new BrushGlass();
        Check.due("sizes", Edges.each(12, x::size), "0 0 0 0 0 0 0 0 0 0 0 0");
        Check.due("fault", x.fault(), 0);
        Check.due("where", x.where(), -1);
        Check.due("trouble", x.trouble(), 0);
        Check.refused("most", x, x.most(), 1);
    }

    private static void glassCall() {
        BrushGlass x = new BrushGlass();
        Check.on("glass: NONE: 2 (THE TAPE stays)");
        for (int n : new int[] {-1, 1, 20, 1000, Integer.MAX_VALUE, Integer.MIN_VALUE}) {
            Check.refused("glass(" + n + ") of an empty tape", x, x.glass(n), 2);
        }
        Check.refused("glass(0) of an empty tape: no text", x, x.glass(0), 4);
        Check.feed(x, ONE);
        int fed = x.size(11);
        for (int n : new int[] {-1, fed + 1, fed + 20, Integer.MAX_VALUE, Integer.MIN_VALUE}) {
            Check.refused("glass(" + n + ")", x, x.glass(n), 2);
            Check.due("THE TAPE stays", x.size(11), fed);
        }
        Check.on("The first n bytes of THE TAPE (it is empty then)");
        Check.fine("glass of all bytes, blanks too", x, x.glass(fed), 1);
        Check.due("THE TAPE", x.size(11), 0);
        Check.feed(x, ONE + ";person q");
        Check.fine("glass of the first ones", x, x.glass(ONE.length()), 1);
        Check.due("THE TAPE, those behind too", x.size(11), 0);
        Check.refused("glass(1)", x, x.glass(1), 2);
        Check.feed(x, ONE);
        Check.refused("glass(0)", x, x.glass(0), 4);
        Check.due("THE TAPE behind a fault", x.size(11), 0);
        Check.on("how many people");
        for (int count = 1; count <= 7; count++) {
            Check.feed(x, people(count));
            Check.fine("glass of " + count, x, x.glass(people(count).length()), count);
        }
    }

    private static void glassAnew() {
        BrushGlass x = House.with("seen 2 aab;says ann 0 0");
        x.move(0, 0, 1);
        x.kind(0, 1);
        x.habit(0, 1);
        x.keep(0, 5);
        x.mark();
        x.seed(77);
        Check.on("4 (the GLASS stays)");
        String before = Edges.all(x);
        String[] wrong = {"", "glass", HEAD, HEAD + ";person p sure", ONE + ";stay p 0 to 4;moves 0 0,0", ONE + ";"};
        for (String text : wrong) {
            Check.feed(x, text);
            Check.refused("glass of " + text, x, x.glass(text.length()), 4);
            Check.due("all behind " + text, Edges.all(x), before);
        }
        Check.refused("a number", x, x.glass(1), 2);
        Check.due("all behind a number", Edges.all(x), before);
        Check.on("SEED 0; nothing to undo, no MARKS");
        Check.feed(x, House.PEOPLE);
        Check.fine("glass", x, x.glass(House.PEOPLE.length()), 4);
        Check.due("all is as in a new object", Edges.all(x), Edges.all(House.whole()));
        Check.due("SEED", x.size(8), 0);
        Check.due("MOVES NOW", x.size(5), 1);
        Check.due("SEEINGS", x.size(6), 0);
        Check.due("SAYINGS", x.size(7), 0);
        Check.refused("undo", x, x.undo(), 6);
        Check.refused("back(0)", x, x.back(0), 1);
        Check.fine("mark", x, x.mark(), 0);
    }

    /** Glasses by turns in one object: a full one leaves nothing behind for a small one, nor do texts with faults. */
    private static void glassFromNowOn() {
        Check.on("are the GLASS from now on");
        String large = House.PEOPLE + ";person eve colour buys first likes a keeps 3 wears 7 takes no;stay eve 0 to 7"
            + ";moves 0 0,2;moves 1 0,1;seen 0 zzz;seen 7 aaa;seen 3 bbb;says eve 0 0;says di 7 2;says eve 3 2";
        String small = HEAD + ";person p" + REST + ";person q" + REST + ";stay q 4 to 4;says q 4 0;seen 4 az";
        String[] texts = {large, small, large, large, small, small, ONE, large, ONE};
        BrushGlass x = new BrushGlass();
        for (String text : texts) {
            Check.feed(x, large + ";");
            Check.refused("glass with a fault at its end", x, x.glass(large.length() + 1), 4);
            Check.feed(x, text);
            Check.due("glass of " + text + " is refused", x.glass(text.length()) < 1, false);
            Check.due("all of " + text, Edges.all(x), Edges.all(Check.of(text)));
        }
    }

    private static void faultCall() {
        Check.on("The FAULT of the latest glass() not refused by 2; 0 without one");
        BrushGlass x = new BrushGlass();
        Check.due("of a new object", x.fault(), 0);
        x.glass(1);
        Check.due("behind 2", x.fault(), 0);
        String[] texts = {"", HEAD + ";stay p", HEAD + ";glass", "glass days 1", ONE + ";seen 0 zz".repeat(7), HEAD, ONE + ";seen 0 z"};
        for (int number = 1; number <= 7; number++) {
            String text = texts[number - 1];
            Check.feed(x, text);
            x.glass(text.length());
            Check.due("fault of " + text, x.fault(), number);
            x.glass(-1);
            Check.due("fault behind 2", x.fault(), number);
            x.most();
            x.undo();
            Check.due("fault behind others", x.fault(), number);
        }
        Check.feed(x, ONE);
        x.glass(ONE.length());
        Check.due("fault of a right one", x.fault(), 0);
        x.glass(2000);
        Check.due("fault of a right one behind 2", x.fault(), 0);
    }

    private static void whereCall() {
        Check.on("Its place, if the latest call that may be refused was by 4; NONE else");
        BrushGlass x = new BrushGlass();
        Check.due("of a new object", x.where(), -1);
        Check.feed(x, "glass days 1");
        x.glass(12);
        Check.due("behind 4", x.where(), 11);
        x.fault();
        x.where();
        x.trouble();
        x.size(3);
        x.size(99);
        x.feed(0, 0, 0, 0, 0);
        Check.due("behind calls of which no number is told", x.where(), 11);
        x.most();
        Check.due("behind a refusal by 1", x.where(), -1);
        x.glass(0);
        Check.due("behind 4 at the first byte", x.where(), 0);
        x.glass(5);
        Check.due("behind a refusal by 2", x.where(), -1);
        x.glass(0);
        x.undo();
        Check.due("behind a refusal by 6", x.where(), -1);
        Check.feed(x, ONE);
        x.glass(ONE.length());
        Check.due("behind a right glass", x.where(), -1);
        x.glass(0);
        Check.due("behind 4, the GLASS stays", x.where(), 0);
        x.most();
        Check.due("behind a call that isn't refused", x.where(), -1);
        x.glass(0);
        x.mark();
        Check.due("behind an act", x.where(), -1);
        String end = HEAD + "      ";
        Check.feed(x, end);
        x.glass(end.length());
        Check.due("the end, blanks and all", x.where(), end.getBytes(StandardCharsets.ISO_8859_1).length);
    }
}
