import java.util.ArrayList;
import java.util.HashMap;
import java.util.List;
import java.util.Map;
import java.util.TreeSet;

/** The grammar of the text once more, by patterns: all faults of a place are gathered, the least counts. */
final class PlainReader {
    private static final Map<String, String> PATTERNS = Map.of(
        "glass", "days DAYS places PLACES colours COLOURS reach REACH",
        "person", "NEW KIND buys HABIT likes ORDER keeps KEEPS wears WEARS takes ANSWER",
        "stay", "STAYER FROM to UNTIL",
        "moves", "DAY PLACE , OTHER",
        "seen", "DAY ROW",
        "says", "OLD DAY PLACE");
    private static final Map<String, Integer> ROOM = Map.of("person", 7, "moves", 10, "seen", 6, "says", 8);

    private final List<String> tokens = new ArrayList<>();
    private final List<Integer> places = new ArrayList<>();
    private final Map<String, Integer> lines = new HashMap<>();
    private final Map<String, List<Integer>> stays = new HashMap<>();
    private final Map<String, Integer> sizes = new HashMap<>();
    private String stayer = "";
    private int latest = 0;
    int fault = 0;
    int where = -1;

    PlainReader(String text) {
        int i = 0;
        while (i < text.length()) {
            int from = i;
            boolean letters = isLetter(text.charAt(i));
            boolean digits = isDigit(text.charAt(i));
            i++;
            while (i < text.length() && (letters && isLetter(text.charAt(i)) || digits && isDigit(text.charAt(i)))) {
                i++;
            }
            if (text.charAt(from) != ' ') {
                tokens.add(text.substring(from, i));
                places.add(from);
            }
        }
        tokens.add("END");
        places.add(text.length());
        read();
    }

    private static boolean isLetter(char sign) {
        return sign >= 'a' && sign <= 'z';
    }

    private static boolean isDigit(char sign) {
        return sign >= '0' && sign <= '9';
    }

    private static boolean isWord(String token) {
        return token.matches("[a-z]{1,8}");
    }

    private static boolean isName(String token) {
        return isWord(token) && !PATTERNS.containsKey(token);
    }

    private void read() {
        int next = 0;
        while (fault == 0) {
            next = readLine(next);
            if (fault != 0) {
                return;
            }
            TreeSet<Integer> faults = new TreeSet<>();
            String token = tokens.get(next);
            if (token.equals("END")) {
                if (!lines.containsKey("person")) {
                    faults.add(6);
                }
                tell(faults, next);
                return;
            }
            if (!token.equals(";")) {
                faults.add(1);
            }
            tell(faults, next);
            next++;
        }
    }

    private void tell(TreeSet<Integer> faults, int token) {
        if (!faults.isEmpty()) {
            fault = faults.first();
            where = places.get(token);
        }
    }

    private int readLine(int from) {
        TreeSet<Integer> faults = new TreeSet<>();
        String first = tokens.get(from);
        int before = lines.merge(first, 1, Integer::sum) - 1;
        if (!PATTERNS.containsKey(first)) {
            faults.add(1);
        } else {
            if (first.equals("glass") && before > 0) {
                faults.add(3);
            }
            if (before >= ROOM.getOrDefault(first, 99)) {
                faults.add(5);
            }
            if (!lines.containsKey("glass")) {
                faults.add(6);
            }
        }
        tell(faults, from);
        if (fault != 0) {
            return from;
        }
        int next = from + 1;
        for (String due : PATTERNS.get(first).split(" ")) {
            tell(check(due, tokens.get(next)), next);
            if (fault != 0) {
                return next;
            }
            next++;
        }
        return next;
    }

    private TreeSet<Integer> check(String due, String token) {
        TreeSet<Integer> faults = new TreeSet<>();
        switch (due) {
            case "NEW":
                name(faults, token);
                if (stays.putIfAbsent(token, new ArrayList<>()) != null) {
                    faults.add(3);
                }
                break;
            case "OLD":
            case "STAYER":
                name(faults, token);
                if (!stays.containsKey(token)) {
                    faults.add(2);
                } else if (due.equals("STAYER") && stays.get(token).size() == 3) {
                    faults.add(5);
                }
                stayer = token;
                break;
            case "KIND":
                form(faults, token.matches("sure|colour|place|messy"));
                break;
            case "HABIT":
                form(faults, token.matches("first|unlike|rare"));
                break;
            case "ANSWER":
                form(faults, token.matches("yes|no"));
                break;
            case "ORDER":
                form(faults, isWord(token));
                letters(faults, token.matches("[" + colours() + "]+") && token.chars().distinct().count() == token.length());
                break;
            case "ROW":
                form(faults, isWord(token));
                letters(faults, token.matches("[z" + colours() + "]{" + sizes.get("PLACES") + "}"));
                break;
            default:
                if (Character.isUpperCase(due.charAt(0))) {
                    number(faults, due, token);
                } else {
                    form(faults, token.equals(due));
                }
        }
        return faults;
    }

    private String colours() {
        return "abcdef".substring(0, sizes.get("COLOURS"));
    }

    private static void name(TreeSet<Integer> faults, String token) {
        form(faults, isName(token));
    }

    private static void form(TreeSet<Integer> faults, boolean right) {
        if (!right) {
            faults.add(1);
        }
    }

    private static void letters(TreeSet<Integer> faults, boolean right) {
        if (!right) {
            faults.add(7);
        }
    }

    private void number(TreeSet<Integer> faults, String due, String token) {
        if (!token.matches("[0-9]{1,3}")) {
            faults.add(1);
            return;
        }
        int value = Integer.parseInt(token);
        int[] bounds = bounds(due);
        if (value < bounds[0] || value > bounds[1]) {
            faults.add(4);
        }
        if (due.equals("OTHER") && value == latest) {
            faults.add(3);
        }
        if (due.equals("UNTIL")) {
            stays.get(stayer).add(value);
        }
        sizes.put(due, value);
        latest = value;
    }

    private int[] bounds(String due) {
        switch (due) {
            case "DAYS":
                return new int[] {2, 30};
            case "PLACES":
                return new int[] {2, 8};
            case "COLOURS":
                return new int[] {1, 6};
            case "REACH":
                return new int[] {0, 100};
            case "KEEPS":
                return new int[] {3, 30};
            case "WEARS":
                return new int[] {1, 9};
            case "FROM":
                int least = 0;
                for (int last : stays.get(stayer)) {
                    least = Math.max(least, last + 1);
                }
                return new int[] {least, sizes.get("DAYS") - 1};
            case "UNTIL":
                return new int[] {latest, sizes.get("DAYS") - 1};
            case "DAY":
                return new int[] {0, sizes.get("DAYS") - 1};
            default:
                return new int[] {0, sizes.get("PLACES") - 1};
        }
    }
}
