/** Promises 1 to 5: a new object, the tape, the text of a glass, its faults and their places. */
public final class TextTest {
    private static final String HEAD = "glass days 5 places 2 colours 2 reach 0";
    private static final String ONE = HEAD + ";person p sure buys first likes a keeps 3 wears 1 takes no";

    public static void main(String[] args) {
        newObject();
        tape();
        glass();
        form();
        faultsOfNames();
        bounds();
        many();
        lacksAndLetters();
        faultAndWhere();
        Check.end();
    }

    private static void newObject() {
        BrushGlass x = new BrushGlass();
        for (int what = 0; what < 12; what++) {
            Check.due("new size " + what, x.size(what), 0);
        }
        Check.due("new trouble", x.trouble(), 0);
        Check.due("new fault", x.fault(), 0);
        Check.due("new where", x.where(), -1);
        Check.refused("new most", x, x.most(), 1);
    }

    private static void tape() {
        BrushGlass x = new BrushGlass();
        for (int i = 1; i <= 50; i++) {
            Check.due("feed " + i, x.feed(538976288, 538976288, 538976288, 538976288, 538976288), 20 * i);
        }
        Check.due("feed beyond", x.feed(1, 2, 3, 4, 5), -1);
        Check.due("tape stays", x.size(11), 1000);
        Check.refused("blanks alone", x, x.glass(1000), 4);
        Check.due("blanks alone: fault", x.fault(), 1);
        Check.due("blanks alone: where", x.where(), 1000);
        Check.due("tape is empty", x.size(11), 0);
        Check.due("feed anew", x.feed(-1, -1, -1, -1, -1), 20);
        // the highest byte of each number comes first
        BrushGlass y = new BrushGlass();
        y.feed(0x67646c61, 0x73732064, 0, 0, 0);
        y.glass(20);
        Check.due("gdla: where", y.where(), 0);
        y.feed(0x676c6173, 0x73206461, 0x79732021, 0, 0);
        y.glass(20);
        Check.due("glass days !: where", y.where(), 11);
    }

    private static void glass() {
        BrushGlass x = new BrushGlass();
        Check.feed(x, ONE);
        int fed = x.size(11);
        Check.refused("glass(-1)", x, x.glass(-1), 2);
        Check.refused("glass beyond", x, x.glass(fed + 1), 2);
        Check.due("tape stays", x.size(11), fed);
        Check.fine("glass", x, x.glass(ONE.length()), 1);
        Check.due("tape is empty", x.size(11), 0);
        Check.due("days", x.size(0), 5);
        x.seed(5);
        x.kind(0, 1);
        x.mark();
        Check.feed(x, "nonsense");
        Check.refused("glass of nonsense", x, x.glass(8), 4);
        Check.due("glass stays", x.size(4), 1);
        Check.due("kind stays", x.person(0, 0), 1);
        Check.due("seed stays", x.size(8), 5);
        Check.due("undo stays", x.size(9), 1);
        Check.due("mark stays", x.size(10), 1);
        String other = HEAD + ";person q messy buys rare likes ba keeps 30 wears 9 takes yes"
            + ";person p sure buys first likes a keeps 3 wears 1 takes no;stay q 0 to 4";
        Check.feed(x, other);
        Check.fine("another glass", x, x.glass(other.length()), 2);
        Check.due("seed 0", x.size(8), 0);
        Check.due("nothing to undo", x.size(9), 0);
        Check.due("no marks", x.size(10), 0);
        Check.due("messy", x.person(0, 0), 3);
        Check.due("no stays of the second", x.person(1, 5), 0);
        // blanks mean nothing, and none is needed between unlike sorts of tokens
        BrushGlass y = Check.of("glass days5places2colours2reach0 ;  person p sure buys first likes a"
            + " keeps 3wears1takes no;stay p 0to 3;moves 1 0 , 1;moves 1 1,0;seen 3az;says p 003 0 ");
        Check.due("places", y.size(1), 2);
        Check.due("moves", y.size(5), 2);
        Check.due("seeing", y.judge(), -2);
        Check.due("saying", y.isTrue(0), 1);
        Check.of(HEAD + ";person sure sure buys first likes a keeps 3 wears 1 takes no;stay sure 0 to 0");
    }

    /** The text is refused with this fault at the last place where the part stands in it, or at its end. */
    private static void fault(int number, String text, String part) {
        BrushGlass x = new BrushGlass();
        Check.feed(x, text);
        Check.refused("glass of " + text, x, x.glass(text.length()), 4);
        Check.due("fault of " + text, x.fault(), number);
        Check.due("where of " + text, x.where(), part.isEmpty() ? text.length() : text.lastIndexOf(part));
    }

    private static void form() {
        fault(1, "", "");
        fault(1, "   ", "");
        fault(1, "glas", "glas");
        fault(1, "; " + ONE, "; g");
        fault(1, "Glass days 5", "G");
        fault(1, HEAD + ";", "");
        fault(1, HEAD + ",", ",");
        fault(1, HEAD + ";;", ";");
        fault(1, HEAD + " 1", "1");
        fault(1, "glass days x", "x");
        fault(1, "glass days", "");
        fault(1, "glass days 0005", "0005");
        fault(1, "glass 5", "5");
        fault(1, "glass days 5 \u00e9", "\u00e9");
        fault(1, "glass days 5-places 2", "-");
        fault(1, HEAD + ";person abcdefghi", "abcdefghi");
        fault(1, HEAD + ";person 3", "3");
        fault(1, HEAD + ";person says", "says");
        fault(1, HEAD + ";person p odd", "odd");
        fault(1, HEAD + ";person p sure buy", "buy");
        fault(1, HEAD + ";person p sure buys sure", "sure");
        fault(1, HEAD + ";person p sure buys first likes 1", "1");
        fault(1, HEAD + ";person p sure buys first likes a keeps 3 wears 1 takes maybe", "maybe");
        fault(1, ONE + ";stay glass", "glass");
        fault(1, ONE + ";stay p 0 til 3", "til");
        fault(1, ONE + ";moves 0 0;1", ";");
        fault(1, ONE + ";seen 0 12", "12");
        fault(1, ONE + ";says 0", "0");
        fault(1, ONE + ";says p 0 0 0", "0");
        fault(1, ONE + ";takes", "takes");
    }

    private static void faultsOfNames() {
        fault(2, ONE + ";stay q 0 to 1", "q");
        fault(2, ONE + ";says sure 0 0", "sure");
        fault(2, HEAD + ";stay p", "p");
        fault(3, ONE + ";person p odd", "p odd");
        fault(3, ONE + ";glass days 99", "glass");
        fault(3, HEAD + ";glass", "glass");
        fault(3, ONE + ";moves 0 1,1", "1");
        fault(3, ONE + ";moves 0 1,001", "001");
    }

    private static void bounds() {
        fault(4, "glass days 1 places 2", "1");
        fault(4, "glass days 31", "31");
        fault(4, "glass days 30 places 1", "1");
        fault(4, "glass days 2 places 9", "9");
        fault(4, "glass days 2 places 8 colours 0", "0");
        fault(4, "glass days 2 places 8 colours 7", "7");
        fault(4, "glass days 2 places 8 colours 6 reach 101", "101");
        fault(4, HEAD + ";person p sure buys first likes a keeps 2", "2");
        fault(4, HEAD + ";person p sure buys first likes a keeps 31", "31");
        fault(4, HEAD + ";person p sure buys first likes a keeps 30 wears 0", "0");
        fault(4, HEAD + ";person p sure buys first likes a keeps 30 wears 10", "10");
        fault(4, ONE + ";stay p 5 to 5", "5 to");
        fault(4, ONE + ";stay p 4 to 5", "5");
        fault(4, ONE + ";stay p 3 to 2", "2");
        fault(4, ONE + ";stay p 1 to 2;stay p 2 to 3", "2 to 3");
        fault(4, ONE + ";stay p 1 to 2;stay p 0 to 0", "0 to 0");
        fault(4, ONE + ";moves 5 0,1", "5");
        fault(4, ONE + ";moves 0 2,1", "2");
        fault(4, ONE + ";moves 0 1,2", "2");
        fault(4, ONE + ";seen 5 az", "5 az");
        fault(4, ONE + ";says p 5 0", "5");
        fault(4, ONE + ";says p 0 2", "2");
        Check.of("glass days 30 places 8 colours 6 reach 100"
            + ";person p sure buys first likes fedcba keeps 30 wears 9 takes no;stay p 29 to 29");
        Check.of("glass days 2 places 2 colours 1 reach 0"
            + ";person abcdefgh sure buys first likes a keeps 3 wears 1 takes no;stay abcdefgh 0 to 0;stay abcdefgh 1 to 1");
    }

    private static void many() {
        String lines = HEAD;
        for (char name = 'a'; name < 'a' + 7; name++) {
            lines += ";person " + name + " sure buys first likes a keeps 3 wears 1 takes no";
        }
        Check.due("seven people", Check.of(lines).size(4), 7);
        fault(5, lines + ";person glass", "person");
        fault(5, ONE + ";stay p 0 to 0;stay p 1 to 1;stay p 2 to 2;stay p 0", "p 0");
        more(";moves 0 0,1", 10, "moves", 5);
        more(";seen 0 zz", 6, "seen", 6);
        more(";says p 0 0", 8, "says", 7);
    }

    private static void more(String line, int room, String word, int what) {
        String text = ONE + line.repeat(room);
        Check.due("as many as there is room for: " + word, Check.of(text).size(what), room);
        fault(5, text + ";" + word, word);
    }

    private static void lacksAndLetters() {
        fault(6, "person glass", "person");
        fault(6, "moves", "moves");
        fault(6, "stay p;" + HEAD, "stay");
        fault(6, HEAD, "");
        fault(6, HEAD + ";moves 0 0,1  ", "");
        fault(7, HEAD + ";person p sure buys first likes ac", "ac");
        fault(7, HEAD + ";person p sure buys first likes aba", "aba");
        fault(7, HEAD + ";person p sure buys first likes az", "az");
        fault(7, HEAD + ";person p sure buys first likes glass", "glass");
        fault(7, "glass days 5 places 2 colours 6 reach 0;person p sure buys first likes abcdefab", "abcdefab");
        fault(7, ONE + ";seen 0 abz", "abz");
        fault(7, ONE + ";seen 0 a", "a");
        fault(7, ONE + ";seen 0 ac", "ac");
        fault(7, ONE + ";seen 0 seen", "seen");
    }

    private static void faultAndWhere() {
        BrushGlass x = new BrushGlass();
        Check.feed(x, "glass nights");
        x.glass(12);
        Check.due("where", x.where(), 6);
        x.feed(0, 0, 0, 0, 0);
        x.size(0);
        Check.due("where behind calls that are never refused", x.where(), 6);
        x.glass(21);
        Check.due("where behind 2", x.where(), -1);
        Check.due("fault behind 2", x.fault(), 1);
        x.glass(0);
        Check.due("where anew", x.where(), 0);
        x.most();
        Check.due("where behind another refusal", x.where(), -1);
        Check.due("fault behind another refusal", x.fault(), 1);
        Check.feed(x, ONE);
        x.glass(ONE.length());
        Check.due("fault of none", x.fault(), 0);
        Check.due("where of none", x.where(), -1);
    }
}
