import java.util.function.IntPredicate;
import java.util.function.IntToLongFunction;

/** What the tests of edges share: numbers outside of bounds, rows of evenings, and all that an object answers. */
final class Edges {
    private Edges() {
    }

    /** Refused by 1 from a count on, and below 0. */
    static void noneSuch(String call, BrushGlass x, int count, IntToLongFunction answer) {
        for (int value : outside(0, count - 1)) {
            Check.refused(call + " " + value, x, answer.applyAsLong(value), 1);
        }
    }

    /** The act is refused by this number for each of these, and nothing is changed by it. */
    static void denied(String act, BrushGlass x, int number, IntPredicate call, int... values) {
        String before = all(x);
        for (int value : values) {
            Check.refused(act + " " + value, x, call.test(value), number);
            Check.due("all behind " + act + " " + value, all(x), before);
        }
    }

    /** The numbers outside of these bounds: beside them, and at the ends of all numbers. */
    static int[] outside(int least, int most) {
        return new int[] {Integer.MIN_VALUE, least - 1, most + 1, Integer.MAX_VALUE};
    }

    /** What stands where in an evening, a sign for each place: the number of a brush, or - for none. */
    static String row(BrushGlass x, int day) {
        StringBuilder row = new StringBuilder();
        for (int place = 0; place < x.size(1); place++) {
            int brush = x.at(day, place);
            row.append(brush == -2 ? "-" : String.valueOf(brush));
        }
        return row.toString();
    }

    /** Rows of all evenings, parted by blanks. */
    static String rows(BrushGlass x) {
        StringBuilder rows = new StringBuilder();
        for (int day = 0; day < x.size(0); day++) {
            rows.append(day > 0 ? " " : "").append(row(x, day));
        }
        return rows.toString();
    }

    /** Answers of a call for 0 .. below a bound, parted by blanks. */
    static String each(int below, IntToLongFunction call) {
        StringBuilder answers = new StringBuilder();
        for (int i = 0; i < below; i++) {
            answers.append(i > 0 ? " " : "").append(call.applyAsLong(i));
        }
        return answers.toString();
    }

    /** All that is told of an object's glass, of what acts changed, and of what they left to be undone. */
    static String all(BrushGlass x) {
        StringBuilder told = new StringBuilder(each(12, x::size));
        for (int p = 0; p < x.size(4); p++) {
            int who = p;
            told.append(" p").append(each(6, what -> x.person(who, what)));
            told.append(" c").append(x.colourOf(p));
            told.append(" s").append(each(x.size(0), day -> x.place(day, who)));
            told.append(" u").append(each(x.size(0), day -> x.uses(day, who)));
            told.append(" o").append(x.suffers(p)).append(' ').append(x.sins(p));
        }
        told.append(" h").append(each(x.size(0), x::here)).append(" a").append(each(x.size(0), x::alike));
        told.append(" f").append(x.full()).append(' ').append(x.notches()).append(' ').append(x.colours());
        told.append(" j").append(x.judge()).append(' ').append(x.wrongOnes());
        told.append(" b").append(each(x.size(4) == 0 ? 0 : x.brushes(), brush -> x.brush(brush, 4)));
        told.append(" r").append(rows(x));
        return told.toString();
    }
}
