/**
 * A house for tests, gone through by hand. What stands in each evening (brushes by numbers):
 * 0: [0 - -]; 1: [0 1 2]; 2: [0 1 2], 3 in the cupboard; 3: [4 - 2], 1 with bob, 3 in the cupboard;
 * 4: [4 2 1] (a move of 1 and 2), 3 with di; 5: [4 2 1]; 6: [5 2 1]; 7: [5 2 -], 1 with bob.
 * Colours: 0, 1, 4, 5 are a; 2, 3 are b. Bob uses what ann has on 1, 2, 4, 5, 6; cy what bob has on 4, 5.
 */
final class House {
    static final String PEOPLE = "glass days 8 places 3 colours 3 reach 50"
        + ";person ann sure buys first likes ab keeps 3 wears 2 takes no"
        + ";person bob colour buys first likes a keeps 30 wears 1 takes yes"
        + ";person cy place buys unlike likes abc keeps 30 wears 3 takes no"
        + ";person di messy buys rare likes ba keeps 30 wears 9 takes yes"
        + ";stay ann 0 to 7;stay bob 1 to 2;stay cy 1 to 5;stay bob 4 to 6;stay di 2 to 3"
        + ";moves 4 1,2";

    private House() {
    }

    static BrushGlass whole() {
        return Check.of(PEOPLE);
    }

    static BrushGlass with(String lines) {
        return Check.of(PEOPLE + ";" + lines);
    }
}
