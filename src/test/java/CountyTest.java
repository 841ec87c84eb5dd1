/** Promises 1 to 9: what is told of the county, and what happens in it. */
public final class CountyTest {
    private static final int FAR = Integer.MAX_VALUE;
    private static final int FAR_BELOW = Integer.MIN_VALUE;

    private final Check check = new Check();

    public static void main(String[] args) {
        CountyTest test = new CountyTest();
        test.promise1NewObject();
        test.promise2Street();
        test.promise3Hall();
        test.promise4Rooms();
        test.promise5Household();
        test.promise6River();
        test.promise7Buses();
        test.promise8Fetch();
        test.promise8FetchWhatTheWaterHasReached();
        test.promise9Pass();
        test.promise9PassHourByHour();
        test.promise9PassToTheLastHour();
        test.check.end("CountyTest");
    }

    private void promise1NewObject() {
        Twelvehundred x = new Twelvehundred();
        int[] first = {0, 0, 0, 0, 0, 0, 0, 10, 0, 1, 0, 0, 0, 0, 0, 0, 0, 0, 0};
        for (int what = 0; what < first.length; what++) {
            int asked = what;
            check.due("1: county(" + what + ")", first[what], () -> x.county(asked));
        }
        check.due("1: signs", "", () -> x.signs());
        check.due("1: chosen", 0, () -> x.chosen());
        check.due("1: isSound", true, () -> x.isSound());
        x.street(50, 50);
        check.due("1: another object has none of it", 0, () -> new Twelvehundred().county(0));
    }

    private void promise2Street() {
        Twelvehundred x = new Twelvehundred();
        check.due("2: lowest", 0, () -> x.street(0, 99));
        check.due("2: highest", 1, () -> x.street(99, 0));
        check.due("2: height 0", 0, () -> x.ofStreet(0, 0));
        check.due("2: place 99", 99, () -> x.ofStreet(0, 1));
        check.due("2: height 99", 99, () -> x.ofStreet(1, 0));
        check.due("2: place 0", 0, () -> x.ofStreet(1, 1));
        for (int wrong : new int[] {-1, 100, FAR, FAR_BELOW}) {
            check.argument("2: height " + wrong, x, () -> x.street(wrong, 0));
            check.argument("2: place " + wrong, x, () -> x.street(0, wrong));
        }
        for (int number = 2; number < 6; number++) {
            check.due("2: street", number, () -> x.street(5, 5));
        }
        check.state("2: a seventh", x, () -> x.street(5, 5));
        check.argument("2: a seventh that is wrong", x, () -> x.street(100, 5));
        check.due("2: six", 6, () -> x.county(0));
    }

    private void promise3Hall() {
        Twelvehundred x = new Twelvehundred();
        check.due("3: without rooms", 0, () -> x.hall(0, 99));
        check.due("3: with most rooms", 1, () -> x.hall(4, 0));
        check.due("3: rooms", 4, () -> x.ofHall(1, 0));
        check.due("3: place", 99, () -> x.ofHall(0, 1));
        for (int wrong : new int[] {-1, 5, FAR, FAR_BELOW}) {
            check.argument("3: rooms " + wrong, x, () -> x.hall(wrong, 0));
        }
        for (int wrong : new int[] {-1, 100, FAR, FAR_BELOW}) {
            check.argument("3: place " + wrong, x, () -> x.hall(0, wrong));
        }
        check.due("3: third", 2, () -> x.hall(2, 50));
        check.state("3: a fourth", x, () -> x.hall(0, 0));
        check.argument("3: a fourth that is wrong", x, () -> x.hall(5, 0));
        check.due("3: three", 3, () -> x.county(1));

        Twelvehundred late = Sheltered.withFetched(2);
        check.due("3: none yet", "--", () -> late.signs());
        late.hall(1, 0);
        check.due("3: takes those who wait", "0-", () -> late.signs());
    }

    private void promise4Rooms() {
        Twelvehundred x = Sheltered.withFetched(3);
        check.index("4: none there", x, () -> x.rooms(0, 1));
        x.hall(1, 0);
        check.due("4: before", 1, () -> x.rooms(0, 2));
        check.due("4: two have rooms", "00-", () -> x.signs());
        check.due("4: before that", 2, () -> x.rooms(0, 0));
        check.due("4: nobody has one", "---", () -> x.signs());
        check.due("4: before that again", 0, () -> x.rooms(0, 4));
        check.due("4: all have one", "000", () -> x.signs());
        check.due("4: now", 4, () -> x.ofHall(0, 0));
        for (int wrong : new int[] {-1, 5, FAR, FAR_BELOW}) {
            check.argument("4: rooms " + wrong, x, () -> x.rooms(0, wrong));
        }
        for (int wrong : new int[] {-1, 1, FAR, FAR_BELOW}) {
            check.index("4: hall " + wrong, x, () -> x.rooms(wrong, 1));
        }
        check.index("4: both wrong", x, () -> x.rooms(1, 5));
    }

    private void promise5Household() {
        Twelvehundred x = new Twelvehundred();
        check.index("5: no street", x, () -> x.household(0, 1, false));
        x.street(11, 0);
        x.street(10, 0);
        check.due("5: comes to the dry", 0, () -> x.household(0, 1, true));
        check.due("5: comes to the water", 1, () -> x.household(1, 9, false));
        check.due("5: at home, cut off", "hx", () -> x.signs());
        check.due("5: street", 1, () -> x.ofHousehold(1, 0));
        check.due("5: people", 9, () -> x.ofHousehold(1, 1));
        check.due("5: frail", 1, () -> x.ofHousehold(0, 2));
        check.due("5: not frail", 0, () -> x.ofHousehold(1, 2));
        for (int wrong : new int[] {-1, 2, FAR, FAR_BELOW}) {
            check.index("5: street " + wrong, x, () -> x.household(wrong, 1, false));
        }
        for (int wrong : new int[] {0, 10, -1, FAR, FAR_BELOW}) {
            check.argument("5: people " + wrong, x, () -> x.household(0, wrong, false));
        }
        check.index("5: both wrong", x, () -> x.household(2, 0, false));
        for (int number = 2; number < 6; number++) {
            check.due("5: household", number, () -> x.household(0, 2, false));
        }
        check.state("5: a seventh", x, () -> x.household(0, 2, false));
        check.argument("5: a seventh of none", x, () -> x.household(0, 0, false));
        check.index("5: a seventh nowhere", x, () -> x.household(2, 2, false));
        check.due("5: six", 6, () -> x.county(2));
    }

    private void promise6River() {
        Twelvehundred x = new Twelvehundred();
        x.street(20, 0);
        x.household(0, 3, false);
        check.due("6: first", 10, () -> x.river(99, 9));
        check.due("6: nobody is cut off yet", "h", () -> x.signs());
        check.due("6: flooded", 1, () -> x.ofStreet(0, 2));
        check.due("6: level", 99, () -> x.county(7));
        check.due("6: rise", 9, () -> x.county(8));
        check.due("6: second", 99, () -> x.river(0, -9));
        check.due("6: level again", 0, () -> x.county(7));
        check.due("6: rise again", -9, () -> x.county(8));
        check.due("6: the water is gone ahead of the hour", 0, () -> x.pass(1));
        check.due("6: so all are at home", "h", () -> x.signs());
        for (int wrong : new int[] {-1, 100, FAR, FAR_BELOW}) {
            check.argument("6: level " + wrong, x, () -> x.river(wrong, 0));
        }
        for (int wrong : new int[] {-10, 10, FAR, FAR_BELOW}) {
            check.argument("6: rise " + wrong, x, () -> x.river(5, wrong));
        }
    }

    private void promise7Buses() {
        Twelvehundred x = new Twelvehundred();
        check.due("7: first", 1, () -> x.buses(3));
        check.due("7: now", 3, () -> x.county(9));
        check.due("7: then", 3, () -> x.buses(0));
        check.due("7: none", 0, () -> x.county(9));
        for (int wrong : new int[] {-1, 4, FAR, FAR_BELOW}) {
            check.argument("7: buses " + wrong, x, () -> x.buses(wrong));
        }
        check.due("7: still none", 0, () -> x.buses(2));
    }

    private void promise8Fetch() {
        Twelvehundred x = Sheltered.atHome(5);
        for (int wrong : new int[] {-1, 5, FAR, FAR_BELOW}) {
            check.index("8: household " + wrong, x, () -> x.fetch(wrong));
        }
        check.due("8: first", 1, () -> x.fetch(4));
        check.state("8: no bus is left", x, () -> x.fetch(3));
        x.buses(3);
        check.due("8: second", 2, () -> x.fetch(3));
        check.state("8: fetched already", x, () -> x.fetch(3));
        x.buses(1);
        check.state("8: more than buses were fetched", x, () -> x.fetch(2));
        x.buses(2);
        check.state("8: as many as buses were fetched", x, () -> x.fetch(2));
        check.due("8: in this hour", 2, () -> x.county(10));
        x.pass(1);
        check.due("8: in the next hour", 0, () -> x.county(10));
        check.due("8: one of it", 1, () -> x.fetch(2));
        x.buses(0);
        x.pass(1);
        check.state("8: without buses", x, () -> x.fetch(1));
        check.index("8: nobody, without buses", x, () -> x.fetch(5));
        check.due("8: in all", "hh---", () -> x.signs());
    }

    private void promise8FetchWhatTheWaterHasReached() {
        Twelvehundred x = Sheltered.atHome(2);
        x.river(99, 0);
        check.due("8: limit", 0, () -> x.ofStreet(0, 3));
        check.due("8: fetched out of the water", 1, () -> x.fetch(0));
        x.pass(1);
        check.due("8: the other is cut off", "-x", () -> x.signs());
        check.state("8: cut off", x, () -> x.fetch(1));
    }

    private void promise9Pass() {
        Twelvehundred x = new Twelvehundred();
        x.buses(3);
        x.street(15, 0);
        x.street(14, 0);
        x.street(99, 0);
        for (int street = 0; street < 3; street++) {
            x.household(street, 1, false);
            x.household(street, 1, false);
        }
        x.fetch(0);
        x.river(12, 1);
        check.due("9: the water is below them", 0, () -> x.pass(1));
        check.due("9: it is there", 2, () -> x.pass(1));
        check.due("9: who is fetched stays so", 1, () -> x.pass(1));
        check.due("9: who is cut off is not so anew", 0, () -> x.pass(1));
        check.due("9: signs", "-xxxhh", () -> x.signs());
        check.due("9: hour", 4, () -> x.county(6));
        check.due("9: level", 16, () -> x.county(7));
        for (int wrong : new int[] {0, -1, 49, FAR, FAR_BELOW}) {
            check.argument("9: hours " + wrong, x, () -> x.pass(wrong));
        }
        x.river(95, 9);
        check.due("9: held to 99, which is there", 2, () -> x.pass(1));
        check.due("9: level held above", 99, () -> x.county(7));
        x.river(5, -9);
        x.pass(1);
        check.due("9: level held below", 0, () -> x.county(7));
        check.due("9: nobody comes home by it", "-xxxxx", () -> x.signs());
    }

    private void promise9PassHourByHour() {
        Twelvehundred x = new Twelvehundred();
        x.street(30, 0);
        x.street(60, 0);
        x.household(0, 1, false);
        x.household(1, 1, false);
        x.household(0, 1, false);
        x.fetch(2);
        x.river(0, 9);
        x.lot(7, 1);
        x.lot(5, 2);
        x.lot(3, 3);
        check.due("9: cut off on the way", 1, () -> x.pass(4));
        check.due("9: level", 36, () -> x.county(7));
        check.due("9: none fetched in this hour", 0, () -> x.county(10));
        check.due("9: spoilt on the way", 15, () -> x.county(14));
        check.due("9: most hours at once", 1, () -> x.pass(48));
        check.due("9: hour", 52, () -> x.county(6));
    }

    private void promise9PassToTheLastHour() {
        Twelvehundred x = new Twelvehundred();
        for (int i = 0; i < 10; i++) {
            x.pass(48);
        }
        x.pass(19);
        check.due("9: hour 499", 499, () -> x.county(6));
        check.state("9: two hours more", x, () -> x.pass(2));
        check.state("9: 48 hours more", x, () -> x.pass(48));
        check.argument("9: 49 hours more", x, () -> x.pass(49));
        check.argument("9: no hours more", x, () -> x.pass(0));
        check.due("9: one hour more", 0, () -> x.pass(1));
        check.due("9: the last hour", 500, () -> x.county(6));
        check.state("9: behind the last hour", x, () -> x.pass(1));
    }
}
