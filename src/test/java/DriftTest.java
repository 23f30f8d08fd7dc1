import java.math.BigInteger;

/** Promise 44: how likely one still stands where it stood. */
public final class DriftTest {
    public static void main(String[] args) {
        due(2, 100, 0, 1, 0, 1);
        due(2, 100, 1, 2, 1, 1);
        due(2, 0, 1, 5, 1, 1);
        due(3, 50, 0, 1, 3, 4);
        due(3, 50, 1, 1, 1, 2);
        due(3, 50, 0, 2, 5, 8);
        due(8, 1, 0, 1, 699, 700);
        due(8, 1, 3, 1, 349, 350);
        due(8, 99, 7, 0, 1, 1);
        int[] reaches = {0, 1, 37, 50, 99, 100};
        for (int places = 2; places <= 8; places += 3) {
            for (int reach : reaches) {
                asModel(places, reach, 0);
                asModel(places, reach, places / 2);
                asModel(places, reach, places - 1);
            }
        }
        refusals();
        Check.end();
    }

    private static BrushGlass glass(int places, int reach) {
        return Check.of("glass days 2 places " + places + " colours 1 reach " + reach
            + ";person p sure buys rare likes a keeps 3 wears 1 takes no");
    }

    private static void due(int places, int reach, int place, int d, long upper, long lower) {
        BrushGlass x = glass(places, reach);
        String told = "drift of " + places + " " + reach + ": " + place + " " + d;
        Check.fine(told, x, x.drift(place, d, false), upper);
        Check.fine(told + " lower", x, x.drift(place, d, true), lower);
    }

    private static void asModel(int places, int reach, int place) {
        PlainModel model = new PlainModel();
        model.places = places;
        model.reach = reach;
        for (int d = 0; d <= 5; d++) {
            BigInteger[] fraction = model.drift(place, d);
            due(places, reach, place, d, fraction[0].longValueExact(), fraction[1].longValueExact());
        }
    }

    private static void refusals() {
        BrushGlass x = glass(3, 50);
        Check.refused("place 3", x, x.drift(3, 6, false), 1);
        Check.refused("place -1", x, x.drift(-1, 0, true), 1);
        Check.refused("d 6", x, x.drift(0, 6, false), 2);
        Check.refused("d -1", x, x.drift(0, -1, true), 2);
        BrushGlass none = new BrushGlass();
        Check.refused("no glass: drift", none, none.drift(0, 0, false), 1);
    }
}
