import java.util.Random;

/** Glasses made by chance; the same chances always make the same ones. */
final class SomeGlass {
    private final Random chance;

    SomeGlass(Random of) {
        chance = of;
    }

    private int upTo(int most) {
        return chance.nextInt(most + 1);
    }

    PlainModel make(int mostPeople, int mostPlaces, int mostDays) {
        PlainModel model = new PlainModel();
        model.days = 2 + upTo(mostDays - 2);
        model.places = 2 + upTo(mostPlaces - 2);
        model.colours = 1 + upTo(5);
        model.reach = chance.nextInt(4) == 0 ? 100 * upTo(1) : upTo(100);
        int people = 1 + upTo(mostPeople - 1);
        for (int p = 0; p < people; p++) {
            model.people.add(someone(model));
        }
        for (int i = upTo(4); i > 0; i--) {
            model.told.add(move(model));
        }
        for (int i = upTo(5); i > 0; i--) {
            model.sayings.add(new int[] {upTo(people - 1), upTo(model.days - 1), upTo(model.places - 1)});
        }
        addSeeings(model);
        return model;
    }

    private PlainModel.Human someone(PlainModel model) {
        PlainModel.Human human = new PlainModel.Human();
        human.kind = upTo(3);
        human.habit = upTo(2);
        human.keep = chance.nextBoolean() ? 3 + upTo(3) : 3 + upTo(27);
        human.wears = 1 + upTo(8);
        human.takes = chance.nextBoolean();
        StringBuilder order = new StringBuilder();
        for (int i = upTo(model.colours - 1); i >= 0; i--) {
            char colour = (char) ('a' + upTo(model.colours - 1));
            if (order.indexOf(String.valueOf(colour)) < 0) {
                order.append(colour);
            }
        }
        human.order = order.toString();
        int from = 0;
        for (int i = upTo(3); i > 0 && from < model.days; i--) {
            int first = Math.min(model.days - 1, from + (chance.nextBoolean() ? 0 : upTo(3)));
            int last = Math.min(model.days - 1, first + upTo(chance.nextBoolean() ? 2 : 12));
            human.stays.add(new int[] {first, last});
            from = last + 1;
        }
        return human;
    }

    int[] move(PlainModel model) {
        int place = upTo(model.places - 1);
        int other = (place + 1 + upTo(model.places - 2)) % model.places;
        return new int[] {upTo(model.days - 1), place, other};
    }

    /** Mostly what stands there with one more move, so that something explains it. */
    private void addSeeings(PlainModel model) {
        model.go(-1, -1, chance.nextInt(3) == 0 ? null : move(model));
        for (int i = upTo(4); i > 0; i--) {
            int day = upTo(model.days - 1);
            StringBuilder row = new StringBuilder(model.evenings.get(day).row());
            if (chance.nextInt(12) == 0) {
                char letter = chance.nextBoolean() ? 'z' : (char) ('a' + upTo(model.colours - 1));
                row.setCharAt(upTo(model.places - 1), letter);
            }
            model.seeings.add(new Object[] {day, row.toString()});
        }
    }
}
