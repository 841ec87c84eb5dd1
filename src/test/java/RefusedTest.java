/**
 * "A method that throws an exception changes nothing. If several exceptions apply, the one that is named first is
 * thrown." Each refused call comes to a county of its own: a new one, or one that is full.
 */
public final class RefusedTest {
    private static final Class<IllegalArgumentException> WHAT = IllegalArgumentException.class;
    private static final Class<IllegalStateException> WHEN = IllegalStateException.class;
    private static final Class<IndexOutOfBoundsException> WHERE = IndexOutOfBoundsException.class;
    private static final int[] FAR = {Integer.MIN_VALUE, Integer.MIN_VALUE + 1, -1000, 1000, Integer.MAX_VALUE};

    /** A call of the face on a county that is made for it. */
    private interface Asked {
        Object of(Twelvehundred x);
    }

    /** A call with a number that may be wrong. */
    private interface Told {
        Object of(Twelvehundred x, int number);
    }

    private final Check check = new Check();

    public static void main(String[] args) {
        RefusedTest test = new RefusedTest();
        test.streets();
        test.halls();
        test.rooms();
        test.households();
        test.river();
        test.buses();
        test.fetch();
        test.pass();
        test.lots();
        test.give();
        test.lists();
        test.asked();
        test.whatWouldBe();
        test.nothingIsThereAtFirst();
        test.check.end("RefusedTest");
    }

    private void refused(String label, Twelvehundred x, Class<? extends RuntimeException> want, Asked call) {
        check.refused(label, x, want, () -> call.of(x));
        check.due(label + " is refused again", "throws " + want.getSimpleName(), () -> call.of(x));
    }

    /** Least and most are taken, or refused for another reason; what is just or far beyond is refused for this. */
    private void within(String label, int least, int most, Class<? extends RuntimeException> want, Told call) {
        for (int wrong : new int[] {least - 1, most + 1}) {
            refused(label + " " + wrong, new Twelvehundred(), want, x -> call.of(x, wrong));
            refused(label + " " + wrong + ", full", Sheltered.full(), want, x -> call.of(x, wrong));
        }
        for (int wrong : FAR) {
            refused(label + " " + wrong, Sheltered.full(), want, x -> call.of(x, wrong));
        }
        for (int right : new int[] {least, most}) {
            Twelvehundred x = Sheltered.full();
            String answer = Check.answerOf(() -> call.of(x, right));
            check.due(label + " " + right + " is none of it", false, () -> answer.contains(want.getSimpleName()));
        }
    }

    /** As within, of numbers that a full county has. */
    private void there(String label, int count, Told call) {
        for (int wrong : new int[] {-1, count}) {
            refused(label + " " + wrong, Sheltered.full(), WHERE, x -> call.of(x, wrong));
        }
        for (int wrong : FAR) {
            refused(label + " " + wrong, Sheltered.full(), WHERE, x -> call.of(x, wrong));
        }
        for (int wrong = 0; wrong < count; wrong++) {
            int number = wrong;
            refused(label + " " + number + " of none", new Twelvehundred(), WHERE, x -> call.of(x, number));
            Twelvehundred full = Sheltered.full();
            String answer = Check.answerOf(() -> call.of(full, number));
            check.due(label + " " + number + " is there", false, () -> answer.contains(WHERE.getSimpleName()));
        }
    }

    private void streets() {
        refused("street, full", Sheltered.full(), WHEN, x -> x.street(0, 0));
        within("height", 0, 99, WHAT, (x, height) -> x.street(height, 50));
        within("place of a street", 0, 99, WHAT, (x, place) -> x.street(50, place));
        refused("both wrong, full", Sheltered.full(), WHAT, x -> x.street(100, -1));
    }

    private void halls() {
        refused("hall, full", Sheltered.full(), WHEN, x -> x.hall(0, 0));
        within("rooms of a new hall", 0, 4, WHAT, (x, rooms) -> x.hall(rooms, 50));
        within("place of a hall", 0, 99, WHAT, (x, place) -> x.hall(4, place));
        refused("both wrong, full", Sheltered.full(), WHAT, x -> x.hall(5, -1));
    }

    private void rooms() {
        there("hall for rooms", 3, (x, hall) -> x.rooms(hall, 2));
        there("hall for no rooms", 3, (x, hall) -> x.rooms(hall, 5));
        for (int wrong : new int[] {-1, 5, Integer.MIN_VALUE, Integer.MAX_VALUE}) {
            refused("rooms " + wrong, Sheltered.full(), WHAT, x -> x.rooms(2, wrong));
            refused("rooms " + wrong + " of no hall", Sheltered.full(), WHERE, x -> x.rooms(3, wrong));
        }
    }

    private void households() {
        refused("household, full", Sheltered.full(), WHEN, x -> x.household(5, 9, true));
        refused("people 0, full", Sheltered.full(), WHAT, x -> x.household(5, 0, true));
        refused("people 10, full", Sheltered.full(), WHAT, x -> x.household(5, 10, true));
        refused("street 6, full", Sheltered.full(), WHERE, x -> x.household(6, 9, true));
        refused("all of it", Sheltered.full(), WHERE, x -> x.household(6, 10, true));
        refused("all of it below", Sheltered.full(), WHERE, x -> x.household(-1, 0, false));
        there("street for a household", 6, (x, street) -> x.household(street, 1, false));
        there("street for nobody", 6, (x, street) -> x.household(street, 0, false));
        for (int wrong : new int[] {0, 10, -1, Integer.MIN_VALUE, Integer.MAX_VALUE}) {
            refused("people " + wrong, Sheltered.streets(50), WHAT, x -> x.household(0, wrong, true));
            refused("people " + wrong + " nowhere", Sheltered.streets(50), WHERE, x -> x.household(1, wrong, true));
        }
        check.due("people 1", 0, () -> Sheltered.streets(50).household(0, 1, true));
        check.due("people 9", 0, () -> Sheltered.streets(50).household(0, 9, true));
    }

    private void river() {
        within("level", 0, 99, WHAT, (x, level) -> x.river(level, 9));
        within("rise", -9, 9, WHAT, (x, rise) -> x.river(50, rise));
        refused("both wrong", Sheltered.full(), WHAT, x -> x.river(100, -10));
    }

    private void buses() {
        within("buses", 0, 3, WHAT, (x, buses) -> x.buses(buses));
    }

    private void fetch() {
        there("household to fetch", 6, (x, household) -> x.fetch(household));
        refused("fetched already", Sheltered.full(), WHEN, x -> x.fetch(1));
        refused("cut off", Sheltered.full(), WHEN, x -> x.fetch(4));
        Twelvehundred busy = Sheltered.full();
        busy.fetch(5);
        refused("no bus is left", busy, WHEN, x -> x.fetch(2));
        refused("no bus is left for nobody", busy, WHERE, x -> x.fetch(6));
        busy.buses(0);
        refused("no bus is there", busy, WHEN, x -> x.fetch(2));
        refused("no bus is there for nobody", busy, WHERE, x -> x.fetch(-1));
        busy.pass(1);
        refused("no bus is there in the next hour", busy, WHEN, x -> x.fetch(2));
    }

    private void pass() {
        within("hours", 1, 48, WHAT, (x, hours) -> x.pass(hours));
        for (int hours = 1; hours <= 48; hours += 47) {
            int told = hours;
            refused("hour 501 by " + hours, Sheltered.inHour(501 - hours), WHEN, x -> x.pass(told));
            refused("hour 501 by 0", Sheltered.inHour(501 - hours), WHAT, x -> x.pass(0));
            refused("hour 501 by 49", Sheltered.inHour(501 - hours), WHAT, x -> x.pass(49));
            Twelvehundred last = Sheltered.inHour(500 - hours);
            check.due("hour 500 by " + hours, 0, () -> last.pass(told));
            check.due("is the last", 500, () -> last.county(6));
        }
        refused("hour 548", Sheltered.inHour(500), WHEN, x -> x.pass(48));
        Twelvehundred wet = Sheltered.inHour(499);
        wet.street(50, 0);
        wet.household(0, 1, false);
        wet.lot(9, 0);
        wet.river(49, 1);
        refused("an hour of two is not passed", wet, WHEN, x -> x.pass(2));
        check.due("it passes by itself", 1, () -> wet.pass(1));
        check.due("and its meals spoil", 9, () -> wet.county(14));
    }

    private void lots() {
        refused("lot, full", Sheltered.full(), WHEN, x -> x.lot(1, 0));
        within("meals of a lot", 1, 99, WHAT, (x, meals) -> x.lot(meals, 50));
        within("hours of a lot", 0, 99, WHAT, (x, hours) -> x.lot(50, hours));
        refused("both wrong, full", Sheltered.full(), WHAT, x -> x.lot(0, 100));
        Twelvehundred late = Sheltered.inHour(500);
        check.due("hours above 500", 0, () -> late.lot(1, 99));
    }

    private void give() {
        within("meals to give", 1, 99, WHAT, (x, meals) -> x.give(meals));
    }

    private void lists() {
        refused("list, full", Sheltered.full(), WHEN, x -> x.list(1));
        within("name", 1, 99999, WHAT, (x, name) -> x.list(name));
        for (int wrong : new int[] {10, 101, 110, 1011, 10111, 11011, 11101, 11110, 99990, 90000, 111111}) {
            refused("name " + wrong, new Twelvehundred(), WHAT, x -> x.list(wrong));
            refused("name " + wrong + ", full", Sheltered.full(), WHAT, x -> x.list(wrong));
        }
        there("listed to strike", 12, (x, listed) -> x.strike(listed, true));
        there("listed to take back", 12, (x, listed) -> x.strike(listed, false));
    }

    private void asked() {
        there("street asked", 6, (x, street) -> x.ofStreet(street, 4));
        there("street asked wrongly", 6, (x, street) -> x.ofStreet(street, 5));
        there("household asked", 6, (x, household) -> x.ofHousehold(household, 5));
        there("household asked wrongly", 6, (x, household) -> x.ofHousehold(household, 6));
        there("hall asked", 3, (x, hall) -> x.ofHall(hall, 3));
        there("hall asked wrongly", 3, (x, hall) -> x.ofHall(hall, 4));
        there("lot asked", 10, (x, lot) -> x.ofLot(lot, 1));
        there("lot asked wrongly", 10, (x, lot) -> x.ofLot(lot, -1));
        what("street", 4, (x, what) -> x.ofStreet(5, what));
        what("household", 5, (x, what) -> x.ofHousehold(5, what));
        what("hall", 3, (x, what) -> x.ofHall(2, what));
        what("lot", 1, (x, what) -> x.ofLot(9, what));
        within("what of the county", 0, 18, WHAT, (x, what) -> x.county(what));
    }

    private void what(String label, int most, Told call) {
        for (int wrong : new int[] {-1, most + 1, Integer.MIN_VALUE, Integer.MAX_VALUE}) {
            refused("what " + wrong + " of a " + label, Sheltered.full(), WHAT, x -> call.of(x, wrong));
        }
        for (int what = 0; what <= most; what++) {
            Twelvehundred full = Sheltered.full();
            int right = what;
            String before = Check.viewOf(full);
            String answer = Check.answerOf(() -> call.of(full, right));
            check.due("what " + what + " of a " + label, false, () -> answer.startsWith("throws"));
            check.due("asking changes nothing", before, () -> Check.viewOf(full));
        }
    }

    private void whatWouldBe() {
        within("meals that would be", 1, 99, WHAT, (x, meals) -> x.would(meals, 50));
        within("hours till then", 0, 99, WHAT, (x, hours) -> x.would(50, hours));
        refused("both wrong", Sheltered.full(), WHAT, x -> x.would(100, 100));
        for (int wrong : new int[] {-1, 64, 65, 128, Integer.MIN_VALUE, Integer.MAX_VALUE}) {
            refused("set " + wrong, Sheltered.full(), WHAT, x -> x.can(wrong));
        }
        for (int wrong : new int[] {0, 10, 100000, 111111, -1, Integer.MIN_VALUE, Integer.MAX_VALUE}) {
            refused("one " + wrong, Sheltered.full(), WHAT, x -> x.areAlike(wrong, 1));
            refused("other " + wrong, Sheltered.full(), WHAT, x -> x.areAlike(1, wrong));
            refused("both " + wrong, Sheltered.full(), WHAT, x -> x.areAlike(wrong, wrong));
        }
        Twelvehundred full = Sheltered.full();
        String before = Check.viewOf(full);
        check.due("nobody", true, () -> full.can(0));
        check.due("the last set", false, () -> full.can(63));
        check.due("those at home", true, () -> full.can(0b101100));
        check.due("stable", true, () -> full.isStable(13));
        check.due("none", false, () -> full.isStable(-1));
        check.due("meals", 50, () -> full.would(50, 0));
        check.due("alike", true, () -> full.areAlike(1, 2));
        check.due("people", 11, () -> full.chosen());
        check.due("sound", true, () -> full.isSound());
        check.due("what would be changes nothing", before, () -> Check.viewOf(full));
    }

    private void nothingIsThereAtFirst() {
        Twelvehundred x = new Twelvehundred();
        refused("street 0 of none", x, WHERE, y -> y.ofStreet(0, 9));
        refused("household 0 of none", x, WHERE, y -> y.ofHousehold(0, 9));
        refused("hall 0 of none", x, WHERE, y -> y.ofHall(0, 9));
        refused("lot 0 of none", x, WHERE, y -> y.ofLot(0, 9));
        refused("rooms of no hall", x, WHERE, y -> y.rooms(0, 9));
        refused("household of no street", x, WHERE, y -> y.household(0, 99, true));
        refused("set of no households", x, WHAT, y -> y.can(1));
        check.due("it is as new", Check.viewOf(new Twelvehundred()), () -> Check.viewOf(x));
    }
}
