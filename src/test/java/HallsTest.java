/** Part 3 of the document's description: each sentence with an edge, on both sides of it. */
public final class HallsTest {
    private final Check check = new Check();

    public static void main(String[] args) {
        HallsTest test = new HallsTest();
        test.hallsAreAtMostThree();
        test.aRoomIsForOneHousehold();
        test.ratherTheNearerHall();
        test.ratherTheSmallerNumber();
        test.ratherAnyHallThanNone();
        test.ratherTheFrail();
        test.ratherMorePeople();
        test.ratherTheSmallerHousehold();
        test.oustsWhomItWouldLeastHave();
        test.theOneOustedAsksOn();
        test.allAskAll();
        test.onlyTheFetchedArePlaced();
        test.stableIsWithinTheRooms();
        test.stableLeavesNoRoomThatOneWouldRatherHave();
        test.stableLeavesNobodyEnvyWithReason();
        test.placingHasAsManyDigitsAsFetched();
        test.placingHasDigitsOfHalls();
        test.placingHasZerosAhead();
        test.placingOfNobody();
        test.check.end("HallsTest");
    }

    /** One street at the given mile. */
    private static Twelvehundred streetAt(int place) {
        Twelvehundred x = new Twelvehundred();
        x.street(90, place);
        return x;
    }

    private static void comesAndIsFetched(Twelvehundred x, int people, boolean isFrail) {
        int number = x.household(0, people, isFrail);
        x.fetch(number);
        x.pass(1);
    }

    private void hallsAreAtMostThree() {
        Twelvehundred x = streetAt(0);
        for (int number = 0; number < 3; number++) {
            check.due("hall " + number, number, () -> x.hall(4, 99));
        }
        check.state("hall 3", x, () -> x.hall(4, 99));
        check.due("the last hall is told anew", 4, () -> x.rooms(2, 0));
        check.index("none behind it is", x, () -> x.rooms(3, 0));
        check.due("the last hall is asked", 0, () -> x.ofHall(2, 0));
        check.index("none behind it is asked", x, () -> x.ofHall(3, 0));
    }

    private void aRoomIsForOneHousehold() {
        String[] due = {"------", "0-----", "00----", "000---", "0000--"};
        for (int rooms = 0; rooms <= 4; rooms++) {
            int told = rooms;
            Twelvehundred x = Sheltered.withFetched(6);
            x.hall(rooms, 0);
            check.due("a hall of " + rooms, due[rooms], () -> x.signs());
            check.due("those in it", (1 << told) - 1, () -> x.ofHall(0, 2));
            check.due("their people", told, () -> x.ofHall(0, 3));
        }
    }

    private void ratherTheNearerHall() {
        nearestIs(1, 50, 40, 59);
        nearestIs(0, 50, 40, 61);
        nearestIs(1, 50, 61, 40);
        nearestIs(2, 50, 40, 60, 50);
        nearestIs(1, 0, 99, 98);
        nearestIs(0, 99, 1, 0);
        nearestIs(2, 99, 0, 1, 2);
    }

    private void ratherTheSmallerNumber() {
        nearestIs(0, 50, 40, 60);
        nearestIs(0, 50, 60, 40);
        nearestIs(1, 50, 39, 60, 40);
        nearestIs(0, 50, 50, 50, 50);
        nearestIs(1, 0, 99, 7, 7);
    }

    private void nearestIs(int due, int home, int... places) {
        Twelvehundred x = streetAt(home);
        for (int place : places) {
            x.hall(1, place);
        }
        comesAndIsFetched(x, 1, false);
        check.due("nearest to " + home, due, () -> x.ofHousehold(0, 4));
        check.due("asked it alone", 1, () -> x.county(11));
        check.due("stable", true, () -> x.isStable(due + 1));
        for (int other = 0; other <= places.length; other++) {
            int told = other;
            check.due("stable " + told, told == due + 1, () -> x.isStable(told));
        }
    }

    private void ratherAnyHallThanNone() {
        Twelvehundred x = streetAt(0);
        x.hall(0, 0);
        x.hall(1, 99);
        comesAndIsFetched(x, 1, false);
        check.due("the farthest", "1", () -> x.signs());
        check.due("behind the nearest", 2, () -> x.county(11));
        check.due("none is not stable", false, () -> x.isStable(0));
        x.rooms(1, 0);
        check.due("none at last", -1, () -> x.ofHousehold(0, 4));
    }

    /** One room and two who want it: the first has it, in whichever order they came. */
    private void firstHasIt(int people, boolean isFrail, int otherPeople, boolean isOtherFrail) {
        Twelvehundred x = streetAt(0);
        x.hall(1, 0);
        comesAndIsFetched(x, people, isFrail);
        comesAndIsFetched(x, otherPeople, isOtherFrail);
        check.due("came first", "0-", () -> x.signs());
        check.due("is stable", true, () -> x.isStable(10));
        check.due("is not stable", false, () -> x.isStable(1));
        Twelvehundred y = streetAt(0);
        y.hall(1, 0);
        comesAndIsFetched(y, otherPeople, isOtherFrail);
        comesAndIsFetched(y, people, isFrail);
        check.due("came second", "-0", () -> y.signs());
        check.due("is stable, too", true, () -> y.isStable(1));
        check.due("is not stable, either", false, () -> y.isStable(10));
    }

    private void ratherTheFrail() {
        firstHasIt(1, true, 9, false);
        firstHasIt(1, true, 1, false);
    }

    private void ratherMorePeople() {
        firstHasIt(2, false, 1, false);
        firstHasIt(9, false, 8, false);
        firstHasIt(9, true, 8, true);
    }

    private void ratherTheSmallerHousehold() {
        for (boolean isFrail : new boolean[] {false, true}) {
            Twelvehundred x = streetAt(0);
            x.hall(1, 0);
            for (int i = 0; i < 3; i++) {
                x.household(0, 5, isFrail);
            }
            x.fetch(2);
            check.due("alone", "hh0", () -> x.signs());
            x.pass(1);
            x.fetch(1);
            check.due("the smaller", "h0-", () -> x.signs());
            x.pass(1);
            x.fetch(0);
            check.due("the smallest", "0--", () -> x.signs());
            check.due("that is stable", true, () -> x.isStable(100));
            check.due("and nothing else", false, () -> x.isStable(10) || x.isStable(1) || x.isStable(0));
        }
    }

    private void oustsWhomItWouldLeastHave() {
        Twelvehundred x = streetAt(0);
        x.hall(3, 0);
        comesAndIsFetched(x, 3, false);
        comesAndIsFetched(x, 5, false);
        comesAndIsFetched(x, 1, true);
        check.due("all have a room", "000", () -> x.signs());
        comesAndIsFetched(x, 3, false);
        check.due("no better than one", "000-", () -> x.signs());
        comesAndIsFetched(x, 4, false);
        check.due("in place of the least", "-00-0", () -> x.signs());
        comesAndIsFetched(x, 1, true);
        check.due("in place of the next", "-00--0", () -> x.signs());
    }

    private void theOneOustedAsksOn() {
        Twelvehundred x = streetAt(0);
        x.hall(1, 0);
        x.hall(1, 1);
        x.hall(1, 2);
        comesAndIsFetched(x, 1, false);
        check.due("the nearest", "0", () -> x.signs());
        check.due("one asked", 1, () -> x.county(11));
        comesAndIsFetched(x, 2, false);
        check.due("one further", "10", () -> x.signs());
        check.due("three asked", 3, () -> x.county(11));
        comesAndIsFetched(x, 3, false);
        check.due("two further", "210", () -> x.signs());
        check.due("six asked", 6, () -> x.county(11));
        comesAndIsFetched(x, 4, false);
        check.due("no hall is left", "-210", () -> x.signs());
        check.due("who has asked all asks no more", 9, () -> x.county(11));
    }

    private void allAskAll() {
        Twelvehundred x = Sheltered.withFetched(6);
        check.due("no hall to ask", 0, () -> x.county(11));
        x.hall(0, 0);
        x.hall(0, 1);
        x.hall(0, 2);
        check.due("six ask three", 18, () -> x.county(11));
        check.due("in vain", "------", () -> x.signs());
        x.rooms(2, 1);
        check.due("the last that is asked has a room", "2-----", () -> x.signs());
        check.due("six ask three still", 18, () -> x.county(11));
        x.rooms(2, 4);
        check.due("four rooms", "2222--", () -> x.signs());
        x.rooms(1, 4);
        check.due("eight rooms", "111122", () -> x.signs());
        check.due("four ask two, two ask three", 14, () -> x.county(11));
    }

    private void onlyTheFetchedArePlaced() {
        Twelvehundred x = Sheltered.streets(20, 90);
        x.hall(2, 0);
        x.household(0, 9, true);
        x.household(1, 1, false);
        x.household(1, 9, true);
        x.fetch(1);
        check.due("those at home ask nothing", 1, () -> x.county(11));
        check.due("nor have a hall", "h0h", () -> x.signs());
        x.river(20, 0);
        x.pass(1);
        check.due("nor those cut off", "x0h", () -> x.signs());
        check.due("of whom there is one", 1, () -> x.county(11));
        check.due("only the fetched is in the hall", 0b010, () -> x.ofHall(0, 2));
        check.due("a placing is of the fetched", true, () -> x.isStable(1));
        check.due("of nobody else", false, () -> x.isStable(11) || x.isStable(10) || x.isStable(101));
    }

    private void stableIsWithinTheRooms() {
        for (int rooms = 0; rooms <= 4; rooms++) {
            Twelvehundred x = Sheltered.withFetched(5);
            x.hall(rooms, 0);
            int[] placings = {0, 10000, 11000, 11100, 11110, 11111};
            for (int in = 0; in <= 5; in++) {
                int placing = placings[in];
                check.due(placing + " in " + rooms, in == rooms, () -> x.isStable(placing));
            }
        }
    }

    private void stableLeavesNoRoomThatOneWouldRatherHave() {
        Twelvehundred x = streetAt(0);
        x.hall(1, 10);
        x.hall(1, 20);
        comesAndIsFetched(x, 1, false);
        check.due("the nearer", true, () -> x.isStable(1));
        check.due("the farther, while the nearer is empty", false, () -> x.isStable(2));
        check.due("none, while both are empty", false, () -> x.isStable(0));
        x.rooms(0, 0);
        check.due("the farther, as the nearer has no room", true, () -> x.isStable(2));
        check.due("the nearer without a room", false, () -> x.isStable(1));
        x.rooms(1, 0);
        check.due("none, as there is no room", true, () -> x.isStable(0));
    }

    private void stableLeavesNobodyEnvyWithReason() {
        Twelvehundred x = new Twelvehundred();
        x.street(90, 0);
        x.street(90, 30);
        x.hall(1, 0);
        x.hall(1, 30);
        x.household(0, 5, false);
        x.household(1, 5, false);
        x.fetch(0);
        x.pass(1);
        x.fetch(1);
        check.due("each the nearer", true, () -> x.isStable(12));
        check.due("each the farther", false, () -> x.isStable(21));
        Twelvehundred y = streetAt(0);
        y.hall(1, 0);
        y.hall(1, 30);
        comesAndIsFetched(y, 5, false);
        comesAndIsFetched(y, 6, false);
        check.due("the envy of the smaller has no reason", true, () -> y.isStable(21));
        check.due("the envy of the larger has", false, () -> y.isStable(12));
        check.due("both in one room", false, () -> y.isStable(11));
        check.due("one has none", false, () -> y.isStable(1));
    }

    private void placingHasAsManyDigitsAsFetched() {
        Twelvehundred x = Sheltered.withFetched(6);
        x.hall(4, 0);
        x.hall(4, 1);
        check.due("six digits", true, () -> x.isStable(111122));
        check.due("seven digits", false, () -> x.isStable(1111220));
        check.due("seven digits, one ahead", false, () -> x.isStable(1111122));
        check.due("eight digits", false, () -> x.isStable(11111122));
        check.due("ten digits", false, () -> x.isStable(1000111122));
        check.due("five digits", false, () -> x.isStable(11122));
        check.due("the first digit is the smallest's", false, () -> x.isStable(221111));
        check.due("below 0", false, () -> x.isStable(-111122));
        check.due("the largest number", false, () -> x.isStable(Integer.MAX_VALUE));
        check.due("the smallest number", false, () -> x.isStable(Integer.MIN_VALUE));
    }

    private void placingHasDigitsOfHalls() {
        for (int halls = 0; halls <= 3; halls++) {
            Twelvehundred x = Sheltered.withFetched(1);
            for (int i = 0; i < halls; i++) {
                x.hall(i == halls - 1 ? 1 : 0, 99);
            }
            for (int digit = -10; digit <= 20; digit++) {
                int placing = digit;
                check.due(placing + " of " + halls, placing == halls, () -> x.isStable(placing));
            }
        }
    }

    private void placingHasZerosAhead() {
        Twelvehundred x = streetAt(0);
        x.hall(2, 0);
        comesAndIsFetched(x, 1, false);
        comesAndIsFetched(x, 1, false);
        comesAndIsFetched(x, 1, false);
        comesAndIsFetched(x, 1, true);
        comesAndIsFetched(x, 1, true);
        check.due("two digits of five", true, () -> x.isStable(11));
        check.due("one digit of five", false, () -> x.isStable(1));
        check.due("three digits of five", false, () -> x.isStable(110));
        x.rooms(0, 0);
        check.due("no digit but 0", true, () -> x.isStable(0));
    }

    private void placingOfNobody() {
        Twelvehundred none = new Twelvehundred();
        check.due("a new county, 0", true, () -> none.isStable(0));
        check.due("a new county, 1", false, () -> none.isStable(1));
        check.due("a new county, -1", false, () -> none.isStable(-1));
        Twelvehundred x = Sheltered.atHome(6);
        x.hall(4, 0);
        check.due("nobody fetched, 0", true, () -> x.isStable(0));
        for (int wrong : new int[] {1, 10, -1, -10, 111111, Integer.MAX_VALUE, Integer.MIN_VALUE}) {
            check.due("nobody fetched, " + wrong, false, () -> x.isStable(wrong));
        }
    }
}
