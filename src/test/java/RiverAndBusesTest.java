/** Parts 1 and 2 of the document's description: each sentence with an edge, on both sides of it. */
public final class RiverAndBusesTest {
    private final Check check = new Check();

    public static void main(String[] args) {
        RiverAndBusesTest test = new RiverAndBusesTest();
        test.streetsAreAtMostSix();
        test.levelAndRiseAtFirst();
        test.levelIsHeld();
        test.hourIsAtMostFiveHundred();
        test.theHourBringsTheLevelFirst();
        test.eachHourCutsOff();
        test.onlyThoseAtHomeAreCutOff();
        test.floodedAtItsHeight();
        test.limitIsZeroIfFloodedNow();
        test.limitIsNeverWithoutRise();
        test.limitIsTheFewestHours();
        test.householdsAreAtMostSix();
        test.cutOffAsItComes();
        test.canWithBusesTimesHours();
        test.canWithoutEnd();
        test.canOfEachHourAlone();
        test.canOfLimitZero();
        test.canLooksAtBusesAlone();
        test.chosenByFallingPeople();
        test.chosenPassesOverWhoCannot();
        test.fetchesAsManyAsBuses();
        test.fetchesAnewInEachHour();
        test.check.end("RiverAndBusesTest");
    }

    private void streetsAreAtMostSix() {
        Twelvehundred x = new Twelvehundred();
        for (int number = 0; number < 6; number++) {
            check.due("street " + number, number, () -> x.street(99, 99));
        }
        check.state("street 6", x, () -> x.street(99, 99));
        check.due("the last street is there", 99, () -> x.ofStreet(5, 0));
        check.index("no street is behind it", x, () -> x.ofStreet(6, 0));
        check.due("the last street takes households", 0, () -> x.household(5, 1, false));
        check.index("none comes behind it", x, () -> x.household(6, 1, false));
    }

    private void levelAndRiseAtFirst() {
        Twelvehundred x = Sheltered.streets(10, 11);
        check.due("level 10 floods", 1, () -> x.ofStreet(0, 2));
        check.due("level 10 floods no more", 0, () -> x.ofStreet(1, 2));
        check.due("rise 0", 999, () -> x.ofStreet(1, 3));
        x.pass(48);
        check.due("level 10 stays", 10, () -> x.county(7));
    }

    private void levelIsHeld() {
        levelBecomes(99, 90, 9);
        levelBecomes(99, 91, 9);
        levelBecomes(99, 98, 1);
        levelBecomes(99, 99, 1);
        levelBecomes(99, 99, 9);
        levelBecomes(98, 97, 1);
        levelBecomes(90, 99, -9);
        levelBecomes(9, 0, 9);
        levelBecomes(0, 9, -9);
        levelBecomes(0, 8, -9);
        levelBecomes(0, 1, -1);
        levelBecomes(0, 0, -1);
        levelBecomes(0, 0, -9);
        levelBecomes(1, 2, -1);
        Twelvehundred x = new Twelvehundred();
        x.river(50, 9);
        x.pass(48);
        check.due("many hours up", 99, () -> x.river(50, -9));
        x.pass(48);
        check.due("many hours down", 0, () -> x.county(7));
    }

    private void levelBecomes(int due, int level, int rise) {
        Twelvehundred x = new Twelvehundred();
        x.river(level, rise);
        x.pass(1);
        check.due("level " + level + " with " + rise, due, () -> x.county(7));
        check.due("rise stays", rise, () -> x.county(8));
    }

    private void hourIsAtMostFiveHundred() {
        Twelvehundred x = Sheltered.inHour(452);
        check.due("48 hours to hour 500", 0, () -> x.pass(48));
        check.due("hour 500", 500, () -> x.county(6));
        check.state("an hour more", x, () -> x.pass(1));
        Twelvehundred y = Sheltered.inHour(453);
        check.state("48 hours to hour 501", y, () -> y.pass(48));
        check.due("47 hours to hour 500", 0, () -> y.pass(47));
        check.due("the last hour is one as others", 0, () -> y.lot(5, 0));
        check.due("its meals are given", 5, () -> y.give(5));
    }

    private void theHourBringsTheLevelFirst() {
        Twelvehundred x = Sheltered.streets(20, 20);
        x.household(0, 1, false);
        x.river(19, 1);
        check.due("cut off by the new level", 1, () -> x.pass(1));
        Twelvehundred y = Sheltered.streets(20);
        y.household(0, 1, false);
        y.river(20, -1);
        check.due("not by the old one", 0, () -> y.pass(1));
        y.river(18, 1);
        check.due("not below its height", 0, () -> y.pass(1));
        check.due("all the same at home", "h", () -> y.signs());
    }

    /** The water of an hour on the way is not that of the last hour. */
    private void eachHourCutsOff() {
        Twelvehundred x = Sheltered.streets(19, 20, 21);
        x.household(0, 1, false);
        x.household(1, 1, false);
        x.household(2, 1, false);
        x.river(25, -5);
        check.due("the first of three hours", 2, () -> x.pass(3));
        check.due("it is over", 10, () -> x.county(7));
        check.due("they are cut off still", "xxh", () -> x.signs());
    }

    private void onlyThoseAtHomeAreCutOff() {
        Twelvehundred x = Sheltered.streets(20, 21);
        x.household(0, 1, false);
        x.household(0, 1, false);
        x.household(1, 1, false);
        x.fetch(1);
        x.river(20, 0);
        check.due("one in the water", 1, () -> x.pass(1));
        check.due("fetched ones stay so", "x-h", () -> x.signs());
        check.due("nobody twice", 0, () -> x.pass(1));
        x.river(0, 0);
        x.pass(1);
        check.due("nor back", "x-h", () -> x.signs());
    }

    private void floodedAtItsHeight() {
        Twelvehundred x = Sheltered.streets(0, 1, 98, 99);
        int[] levels = {0, 1, 97, 98, 99};
        int[] flooded = {1, 2, 2, 3, 4};
        for (int i = 0; i < levels.length; i++) {
            x.river(levels[i], 0);
            int due = flooded[i];
            check.due("streets in the water at " + levels[i], due,
                () -> x.ofStreet(0, 2) + x.ofStreet(1, 2) + x.ofStreet(2, 2) + x.ofStreet(3, 2));
        }
    }

    private void limitIsZeroIfFloodedNow() {
        Twelvehundred x = Sheltered.streets(40);
        for (int rise = -9; rise <= 9; rise++) {
            x.river(40, rise);
            check.due("limit in the water with " + rise, 0, () -> x.ofStreet(0, 3));
            x.river(39, rise);
            int due = rise > 0 ? 1 : 999;
            check.due("limit just above it with " + rise, due, () -> x.ofStreet(0, 3));
        }
    }

    private void limitIsNeverWithoutRise() {
        Twelvehundred x = Sheltered.streets(99);
        for (int rise = -9; rise <= 0; rise++) {
            x.river(98, rise);
            check.due("limit with " + rise, 999, () -> x.ofStreet(0, 3));
        }
        x.river(98, 1);
        check.due("limit with 1", 1, () -> x.ofStreet(0, 3));
        x.river(0, 1);
        check.due("the longest limit that ends", 99, () -> x.ofStreet(0, 3));
    }

    private void limitIsTheFewestHours() {
        for (int rise = 1; rise <= 9; rise++) {
            for (int above = 1; above <= 2 * rise + 1; above++) {
                limitIsWhatComes(50 + above, 50, rise);
            }
            limitIsWhatComes(99, 0, rise);
        }
    }

    private void limitIsWhatComes(int height, int level, int rise) {
        Twelvehundred x = Sheltered.streets(height);
        x.river(level, rise);
        int limit = x.ofStreet(0, 3);
        int hours = 0;
        while (hours < 100 && x.ofStreet(0, 2) == 0) {
            x.pass(1);
            hours++;
        }
        check.due("limit of " + height + " at " + level + " with " + rise, hours, () -> limit);
    }

    private void householdsAreAtMostSix() {
        Twelvehundred x = Sheltered.atHome(5);
        check.due("household 5", 5, () -> x.household(0, 9, true));
        check.state("household 6", x, () -> x.household(0, 9, true));
        x.fetch(0);
        check.state("fetched ones count as well", x, () -> x.household(0, 9, true));
        x.river(99, 0);
        x.pass(1);
        check.state("and those cut off", x, () -> x.household(0, 9, true));
        check.due("the last is there", 9, () -> x.ofHousehold(5, 1));
        check.index("none is behind it", x, () -> x.ofHousehold(6, 1));
    }

    private void cutOffAsItComes() {
        Twelvehundred x = Sheltered.streets(20, 0);
        x.river(19, 9);
        x.household(0, 1, false);
        check.due("at home a foot above the water", 0, () -> x.ofHousehold(0, 3));
        x.river(20, -9);
        x.household(0, 1, false);
        check.due("cut off at its height", 2, () -> x.ofHousehold(1, 3));
        check.due("who came before is not", 0, () -> x.ofHousehold(0, 3));
        x.river(0, 0);
        x.household(1, 1, false);
        check.due("cut off at height 0", 2, () -> x.ofHousehold(2, 3));
        check.due("those are not counted by the hour", 0, () -> x.pass(1));
        check.state("nor fetched", x, () -> x.fetch(1));
    }

    /** With so many buses just so many can be fetched ahead of that hour, and one more can not. */
    private void canWithBusesTimesHours() {
        for (int buses = 0; buses <= 3; buses++) {
            for (int hour = 1; hour <= 5; hour++) {
                Twelvehundred x = Sheltered.streets(10 + hour);
                for (int i = 0; i < 6; i++) {
                    x.household(0, 1, false);
                }
                x.river(10, 1);
                x.buses(buses);
                for (int size = 0; size <= 6; size++) {
                    int set = (1 << size) - 1;
                    boolean due = size <= buses * hour;
                    check.due(size + " by " + buses + " in " + hour, due, () -> x.can(set));
                }
                int due = Math.min(6, buses * hour);
                check.due("chosen by " + buses + " in " + hour, due, () -> x.chosen());
            }
        }
    }

    private void canWithoutEnd() {
        Twelvehundred x = Sheltered.atHome(6);
        check.due("one bus and no rise", true, () -> x.can(63));
        x.buses(0);
        check.due("no bus and no rise", false, () -> x.can(1));
        check.due("nobody by no bus", true, () -> x.can(0));
        check.due("nobody is chosen", 0, () -> x.chosen());
    }

    private void canOfEachHourAlone() {
        Twelvehundred x = Sheltered.streets(11, 13);
        x.household(1, 1, false);
        x.household(1, 1, false);
        x.household(0, 1, false);
        x.household(1, 1, false);
        x.household(0, 1, false);
        x.river(10, 1);
        check.due("one early, two late", true, () -> x.can(0b00111));
        check.due("one early, three late", false, () -> x.can(0b01111));
        check.due("two early, though there is time later", false, () -> x.can(0b10100));
        check.due("three late", true, () -> x.can(0b01011));
    }

    private void canOfLimitZero() {
        Twelvehundred x = Sheltered.streets(20, 90);
        x.household(0, 9, false);
        x.household(1, 1, false);
        x.buses(3);
        x.river(19, 1);
        check.due("limit 1", true, () -> x.can(0b11));
        x.river(20, 1);
        check.due("limit 0", false, () -> x.can(0b01));
        check.due("limit 0 among others", false, () -> x.can(0b11));
        check.due("the others", true, () -> x.can(0b10));
        check.due("not chosen", 0, () -> x.ofHousehold(0, 5));
        check.due("fetched all the same", 1, () -> x.fetch(0));
    }

    private void canLooksAtBusesAlone() {
        Twelvehundred x = Sheltered.streets(11, 90);
        x.household(0, 1, false);
        x.household(1, 1, false);
        x.river(10, 1);
        x.fetch(1);
        check.due("the bus of this hour is on its way", true, () -> x.can(1));
        check.due("chosen all the same", 1, () -> x.ofHousehold(0, 5));
        check.state("and not fetched", x, () -> x.fetch(0));
    }

    private void chosenByFallingPeople() {
        Twelvehundred x = Sheltered.streets(11);
        int[] people = {1, 9, 8, 9, 1, 2};
        for (int each : people) {
            x.household(0, each, false);
        }
        x.river(10, 1);
        chosenAre(x, 0b000010);
        x.buses(2);
        chosenAre(x, 0b001010);
        x.buses(3);
        chosenAre(x, 0b001110);
        x.fetch(1);
        chosenAre(x, 0b101100);
        x.fetch(3);
        chosenAre(x, 0b100101);
        x.fetch(2);
        chosenAre(x, 0b110001);
    }

    private void chosenAre(Twelvehundred x, int due) {
        int people = 0;
        for (int i = 0; i < x.county(2); i++) {
            int who = i;
            check.due("chosen is " + i, due >> i & 1, () -> x.ofHousehold(who, 5));
            people += (due >> i & 1) * x.ofHousehold(i, 1);
        }
        int all = people;
        check.due("people of those chosen", all, () -> x.chosen());
        check.due("those chosen can be fetched", true, () -> x.can(due));
    }

    private void chosenPassesOverWhoCannot() {
        Twelvehundred x = Sheltered.streets(11, 12, 13);
        x.household(0, 9, false);
        x.household(0, 8, false);
        x.household(1, 7, false);
        x.household(1, 6, false);
        x.household(2, 1, false);
        x.household(2, 1, false);
        x.river(10, 1);
        chosenAre(x, 0b010101);
    }

    private void fetchesAsManyAsBuses() {
        for (int buses = 0; buses <= 3; buses++) {
            Twelvehundred x = Sheltered.atHome(5);
            x.buses(buses);
            for (int i = 0; i < buses; i++) {
                int who = i;
                check.due("fetched by " + buses, who + 1, () -> x.fetch(who));
            }
            int next = buses;
            check.state("one more than " + buses, x, () -> x.fetch(next));
            check.due("in this hour by " + buses, buses, () -> x.county(10));
            check.due("at home still", 5 - buses, () -> x.county(3));
        }
    }

    private void fetchesAnewInEachHour() {
        Twelvehundred x = Sheltered.atHome(6);
        x.buses(3);
        x.fetch(0);
        x.fetch(1);
        x.buses(1);
        check.state("fewer buses than were fetched by", x, () -> x.fetch(2));
        x.pass(1);
        check.due("a new hour", 1, () -> x.fetch(2));
        check.state("and its end", x, () -> x.fetch(3));
        x.buses(2);
        check.due("a bus more", 2, () -> x.fetch(3));
        x.pass(2);
        check.due("none yet", 0, () -> x.county(10));
        check.due("fetched in all", 4, () -> x.county(4));
    }
}
