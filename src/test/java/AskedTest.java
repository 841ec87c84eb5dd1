import java.math.BigInteger;
import java.util.ArrayList;
import java.util.List;

/** Promises 15 to 17, 19 to 23, 26 and 27: what is asked of the county, and what would be. */
public final class AskedTest {
    private static final int FAR = Integer.MAX_VALUE;
    private static final int FAR_BELOW = Integer.MIN_VALUE;

    private final Check check = new Check();

    public static void main(String[] args) {
        AskedTest test = new AskedTest();
        test.promise15OfStreet();
        test.promise15Limit();
        test.promise16OfHousehold();
        test.promise16Chosen();
        test.promise16Placing();
        test.promise17OfHall();
        test.promise19County();
        test.promise19Asking();
        test.promise20Signs();
        test.promise21Can();
        test.promise21CanOfEachSet();
        test.promise21CanHourByHour();
        test.promise22Chosen();
        test.promise23IsStable();
        test.promise23IsStableOfNobody();
        test.promise26IsSound();
        test.promise26IsSoundOfMeals();
        test.promise26IsSoundOfThoseAtHome();
        test.promise26IsSoundOfPersons();
        test.promise27Digest();
        test.promise27DigestOfWhatWouldBe();
        test.check.end("AskedTest");
    }

    private void promise15OfStreet() {
        Twelvehundred x = new Twelvehundred();
        check.index("15: no street", x, () -> x.ofStreet(0, 0));
        x.street(10, 33);
        x.street(11, 44);
        check.due("15: height", 11, () -> x.ofStreet(1, 0));
        check.due("15: place", 44, () -> x.ofStreet(1, 1));
        check.due("15: flooded at its height", 1, () -> x.ofStreet(0, 2));
        check.due("15: not below it", 0, () -> x.ofStreet(1, 2));
        x.household(0, 1, false);
        x.household(1, 1, false);
        x.household(1, 1, false);
        check.due("15: cut off", 0, () -> x.ofStreet(0, 4));
        check.due("15: at home", 2, () -> x.ofStreet(1, 4));
        x.fetch(1);
        check.due("15: one is fetched", 1, () -> x.ofStreet(1, 4));
        check.due("15: all at home", 6, () -> Sheltered.atHome(6).ofStreet(0, 4));
        for (int wrong : new int[] {-1, 2, FAR, FAR_BELOW}) {
            check.index("15: street " + wrong, x, () -> x.ofStreet(wrong, 0));
        }
        for (int wrong : new int[] {-1, 5, FAR, FAR_BELOW}) {
            check.argument("15: what " + wrong, x, () -> x.ofStreet(0, wrong));
        }
        check.index("15: both wrong", x, () -> x.ofStreet(2, 5));
    }

    private void promise15Limit() {
        Twelvehundred x = new Twelvehundred();
        x.street(20, 0);
        x.street(99, 0);
        limitIs(x, 20, -9, 0);
        limitIs(x, 21, 9, 0);
        limitIs(x, 19, 0, 999);
        limitIs(x, 19, -1, 999);
        limitIs(x, 19, 1, 1);
        limitIs(x, 10, 1, 10);
        limitIs(x, 10, 3, 4);
        limitIs(x, 11, 3, 3);
        limitIs(x, 10, 9, 2);
        limitIs(x, 0, 9, 3);
        check.due("15: the highest", 11, () -> x.ofStreet(1, 3));
        x.river(0, 1);
        check.due("15: the highest, slowly", 99, () -> x.ofStreet(1, 3));
        x.river(96, 9);
        check.due("15: the highest, at once", 1, () -> x.ofStreet(1, 3));
        x.river(98, 0);
        check.due("15: the highest, never", 999, () -> x.ofStreet(1, 3));
    }

    private void limitIs(Twelvehundred x, int level, int rise, int limit) {
        x.river(level, rise);
        check.due("15: limit at " + level + " with " + rise, limit, () -> x.ofStreet(0, 3));
    }

    private void promise16OfHousehold() {
        Twelvehundred x = new Twelvehundred();
        check.index("16: no household", x, () -> x.ofHousehold(0, 0));
        x.street(90, 5);
        x.street(10, 6);
        x.street(90, 7);
        x.household(2, 4, true);
        x.household(1, 9, false);
        x.household(0, 2, false);
        int[][] due = {{2, 4, 1, 0, -1, 1}, {1, 9, 0, 2, -1, 0}, {0, 2, 0, 1, -1, 0}};
        x.fetch(2);
        for (int household = 0; household < 3; household++) {
            for (int what = 0; what < 6; what++) {
                int who = household;
                int asked = what;
                check.due("16: " + who + ", " + what, due[who][what], () -> x.ofHousehold(who, asked));
            }
        }
        x.hall(1, 0);
        check.due("16: its hall", 0, () -> x.ofHousehold(2, 4));
        check.due("16: no hall at home", -1, () -> x.ofHousehold(0, 4));
        for (int wrong : new int[] {-1, 3, FAR, FAR_BELOW}) {
            check.index("16: household " + wrong, x, () -> x.ofHousehold(wrong, 0));
        }
        for (int wrong : new int[] {-1, 6, FAR, FAR_BELOW}) {
            check.argument("16: what " + wrong, x, () -> x.ofHousehold(0, wrong));
        }
        check.index("16: both wrong", x, () -> x.ofHousehold(3, 6));
    }

    private void promise16Chosen() {
        Twelvehundred x = new Twelvehundred();
        x.street(11, 0);
        x.street(12, 0);
        x.household(0, 3, false);
        x.household(0, 3, true);
        x.household(1, 2, false);
        x.household(1, 5, false);
        x.river(10, 1);
        // One bus: by falling people 3, then 0; 1 and 2 find no room in two hours.
        chosenAre(x, "16: one bus", 1, 0, 0, 1);
        x.buses(2);
        chosenAre(x, "16: two buses", 1, 1, 1, 1);
        x.buses(0);
        chosenAre(x, "16: no bus", 0, 0, 0, 0);
        x.buses(1);
        x.river(11, 1);
        chosenAre(x, "16: those in the water are not", 0, 0, 0, 1);
        x.fetch(3);
        chosenAre(x, "16: those fetched are not", 0, 0, 1, 0);
    }

    private void chosenAre(Twelvehundred x, String label, int... due) {
        for (int household = 0; household < due.length; household++) {
            int who = household;
            check.due(label + ", household " + who, due[who], () -> x.ofHousehold(who, 5));
        }
    }

    /** Halls of a room each at miles 10, 30 and 32; the four households, all fetched, live at 10, 20, 31 and 31. */
    private static Twelvehundred contested() {
        Twelvehundred x = new Twelvehundred();
        x.street(90, 10);
        x.street(90, 20);
        x.street(90, 31);
        x.hall(1, 10);
        x.hall(1, 30);
        x.hall(1, 32);
        x.household(0, 4, false);
        x.household(1, 1, true);
        x.household(2, 6, false);
        x.household(2, 6, false);
        x.buses(3);
        x.fetch(0);
        x.fetch(1);
        x.fetch(2);
        x.pass(1);
        x.fetch(3);
        return x;
    }

    private void promise16Placing() {
        Twelvehundred x = contested();
        // 1 is as near to hall 0 and hall 1 and drives 0 out of 0; 2 and 3 are as near to 1 and 2, and 2 is the
        // first of them; 0 has nothing left, as 2 and 3 have more people.
        check.due("16: signs", "-012", () -> x.signs());
        int[] halls = {-1, 0, 1, 2};
        for (int who = 0; who < 4; who++) {
            int asked = who;
            check.due("16: hall of " + who, halls[who], () -> x.ofHousehold(asked, 4));
        }
        x.rooms(2, 2);
        check.due("16: the second choices", "2012", () -> x.signs());
        x.rooms(0, 2);
        check.due("16: the first choices", "0012", () -> x.signs());
        x.rooms(0, 0);
        check.due("16: the frail one ahead of those with more people", "-122", () -> x.signs());
    }

    private void promise17OfHall() {
        Twelvehundred none = new Twelvehundred();
        check.index("17: no hall", none, () -> none.ofHall(0, 0));
        Twelvehundred x = contested();
        x.rooms(0, 2);
        int[][] due = {{2, 10, 0b0011, 5}, {1, 30, 0b0100, 6}, {1, 32, 0b1000, 6}};
        for (int hall = 0; hall < 3; hall++) {
            for (int what = 0; what < 4; what++) {
                int which = hall;
                int asked = what;
                check.due("17: " + hall + ", " + what, due[hall][what], () -> x.ofHall(which, asked));
            }
        }
        x.rooms(0, 0);
        check.due("17: nobody", 0, () -> x.ofHall(0, 2));
        check.due("17: no people", 0, () -> x.ofHall(0, 3));
        for (int wrong : new int[] {-1, 3, FAR, FAR_BELOW}) {
            check.index("17: hall " + wrong, x, () -> x.ofHall(wrong, 0));
        }
        for (int wrong : new int[] {-1, 4, FAR, FAR_BELOW}) {
            check.argument("17: what " + wrong, x, () -> x.ofHall(0, wrong));
        }
        check.index("17: both wrong", x, () -> x.ofHall(3, 4));
    }

    private void promise19County() {
        Twelvehundred x = contested();
        x.street(14, 50);
        x.household(3, 2, false);
        x.household(2, 2, false);
        x.buses(2);
        x.give(4);
        x.river(12, 2);
        x.pass(1);
        x.street(60, 0);
        x.lot(30, 0);
        x.lot(20, 9);
        x.give(7);
        x.pass(1);
        x.give(15);
        x.fetch(5);
        x.list(12);
        x.list(13);
        x.list(99);
        x.strike(2, true);
        x.knock();
        int[] due = {5, 3, 6, 0, 5, 1, 3, 16, 2, 2, 1, 10, 5, 22, 23, 4, 3, 1, 1};
        for (int what = 0; what < due.length; what++) {
            int asked = what;
            check.due("19: county(" + what + ")", due[what], () -> x.county(asked));
        }
        Twelvehundred home = Sheltered.atHome(3);
        check.due("19: at home", 3, () -> home.county(3));
        home.river(90, 0);
        home.pass(1);
        check.due("19: cut off", 3, () -> home.county(5));
        for (int wrong : new int[] {-1, 19, FAR, FAR_BELOW}) {
            check.argument("19: what " + wrong, x, () -> x.county(wrong));
        }
    }

    private void promise19Asking() {
        Twelvehundred x = Sheltered.withFetched(3);
        check.due("19: nobody to ask", 0, () -> x.county(11));
        x.hall(0, 1);
        check.due("19: each asks in vain", 3, () -> x.county(11));
        x.hall(2, 2);
        check.due("19: each asks both", 6, () -> x.county(11));
        x.hall(4, 0);
        check.due("19: each asks the nearest alone", 3, () -> x.county(11));
        x.rooms(2, 1);
        check.due("19: one has the nearest, two ask all", 7, () -> x.county(11));
        x.rooms(2, 0);
        check.due("19: all ask all", 9, () -> x.county(11));
    }

    private void promise20Signs() {
        Twelvehundred x = new Twelvehundred();
        check.due("20: nobody", "", () -> x.signs());
        x.street(90, 0);
        x.street(10, 0);
        x.hall(1, 9);
        x.hall(1, 8);
        x.hall(1, 7);
        x.buses(3);
        x.household(0, 1, false);
        x.household(1, 1, false);
        x.household(0, 2, false);
        check.due("20: at home and cut off", "hxh", () -> x.signs());
        x.fetch(2);
        check.due("20: the nearest hall", "hx2", () -> x.signs());
        x.household(0, 1, true);
        x.fetch(3);
        check.due("20: the frail drive out", "hx12", () -> x.signs());
        x.household(0, 3, false);
        x.fetch(4);
        x.pass(1);
        check.due("20: more people drive out", "hx021", () -> x.signs());
        x.fetch(0);
        check.due("20: the last has none", "-x021", () -> x.signs());
        check.due("20: six of all kinds", "02hhxh", () -> Sheltered.full().signs());
    }

    private void promise21Can() {
        Twelvehundred x = new Twelvehundred();
        check.due("21: nobody of nobody", true, () -> x.can(0));
        check.argument("21: someone of nobody", x, () -> x.can(1));
        x.street(30, 0);
        x.street(10, 0);
        x.household(0, 1, false);
        x.household(0, 1, false);
        x.household(1, 1, false);
        check.due("21: nobody", true, () -> x.can(0));
        check.due("21: the river stands", true, () -> x.can(3));
        check.due("21: cut off", false, () -> x.can(4));
        check.due("21: one of them cut off", false, () -> x.can(5));
        for (int wrong : new int[] {-1, 8, FAR, FAR_BELOW, 1 << 6}) {
            check.argument("21: set " + wrong, x, () -> x.can(wrong));
        }
        x.fetch(0);
        check.due("21: fetched", false, () -> x.can(1));
        check.due("21: the other, though no bus is left in this hour", true, () -> x.can(2));
        x.buses(0);
        check.due("21: no bus, though the river stands", false, () -> x.can(2));
        check.due("21: nobody without a bus", true, () -> x.can(0));
        x.buses(3);
        x.river(30, 0);
        check.due("21: at home in the water", false, () -> x.can(2));
        x.river(29, 1);
        check.due("21: the water is an hour away", true, () -> x.can(2));
        Twelvehundred full = Sheltered.atHome(6);
        check.due("21: all six", true, () -> full.can(63));
        check.argument("21: seven", full, () -> full.can(64));
    }

    private void promise21CanOfEachSet() {
        for (int households = 0; households <= 6; households++) {
            Twelvehundred x = Sheltered.atHome(households);
            int sets = 1 << households;
            for (int set = 0; set < sets; set++) {
                int told = set;
                check.due("21: set " + set + " of " + households, true, () -> x.can(told));
            }
            check.argument("21: one household more than " + households, x, () -> x.can(sets));
            check.argument("21: all and one more than " + households, x, () -> x.can(2 * sets - 1));
            check.argument("21: -1 of " + households, x, () -> x.can(-1));
        }
    }

    private void promise21CanHourByHour() {
        Twelvehundred x = new Twelvehundred();
        for (int height = 11; height <= 14; height++) {
            x.street(height, 0);
        }
        x.river(10, 1);
        x.household(0, 1, false);
        x.household(1, 1, false);
        x.household(1, 1, false);
        x.household(2, 1, false);
        x.household(3, 1, false);
        x.household(3, 1, false);
        check.due("21: one an hour", true, () -> x.can(0b011011));
        check.due("21: three in two hours", false, () -> x.can(0b000111));
        check.due("21: two in two hours", true, () -> x.can(0b000110));
        check.due("21: four in three hours", false, () -> x.can(0b001111));
        check.due("21: five in four hours", false, () -> x.can(0b111011));
        check.due("21: four in four hours", true, () -> x.can(0b111010));
        x.buses(2);
        check.due("21: with two buses all", true, () -> x.can(0b111111));
        x.river(11, 1);
        check.due("21: but not out of the water", false, () -> x.can(0b111111));
        check.due("21: all others", true, () -> x.can(0b111110));
        x.river(11, 3);
        check.due("21: five in an hour", false, () -> x.can(0b111110));
        check.due("21: two in an hour", true, () -> x.can(0b100010));
    }

    private void promise22Chosen() {
        Twelvehundred x = new Twelvehundred();
        check.due("22: nobody", 0, () -> x.chosen());
        x.street(11, 0);
        x.street(12, 0);
        x.household(0, 6, false);
        x.household(1, 6, false);
        x.household(1, 9, true);
        check.due("22: the river stands", 21, () -> x.chosen());
        x.river(10, 1);
        check.due("22: two of them", 15, () -> x.chosen());
        x.river(10, 2);
        check.due("22: one of them", 9, () -> x.chosen());
        x.buses(2);
        check.due("22: by two buses", 15, () -> x.chosen());
        x.fetch(2);
        check.due("22: but for who is fetched", 12, () -> x.chosen());
        x.river(11, 1);
        check.due("22: but for those in the water", 6, () -> x.chosen());
        x.buses(0);
        check.due("22: without a bus", 0, () -> x.chosen());
        check.due("22: a single one", 1, () -> Sheltered.atHome(1).chosen());
        check.due("22: six single ones", 6, () -> Sheltered.atHome(6).chosen());
    }

    private void promise23IsStable() {
        int stable = 123;
        for (int placing = 0; placing < 6000; placing++) {
            int told = placing;
            check.due("23: " + told, told == stable, () -> contested().isStable(told));
        }
        Twelvehundred x = contested();
        for (int wrong : new int[] {-1, -123, 10123, 1230, FAR, FAR_BELOW}) {
            check.due("23: " + wrong, false, () -> x.isStable(wrong));
        }
        x.rooms(0, 2);
        check.due("23: with one room more", true, () -> x.isStable(1123));
        check.due("23: the old one leaves a room empty", false, () -> x.isStable(123));
        check.due("23: more than the rooms", false, () -> x.isStable(1122));
        check.due("23: one is envied by those with smaller numbers", false, () -> x.isStable(1132));
        x.rooms(0, 0);
        check.due("23: a hall without rooms", false, () -> x.isStable(1123));
        check.due("23: the frail one in the nearest left", true, () -> x.isStable(230));
        check.due("23: nobody is moved by it", "-12-", () -> x.signs());
    }

    private void promise23IsStableOfNobody() {
        Twelvehundred x = Sheltered.atHome(2);
        check.due("23: nobody", true, () -> x.isStable(0));
        check.due("23: nobody, a digit", false, () -> x.isStable(1));
        x.hall(2, 0);
        check.due("23: nobody, a digit and a hall", false, () -> x.isStable(1));
        check.due("23: nobody still", true, () -> x.isStable(0));
        x.fetch(1);
        check.due("23: one outside", false, () -> x.isStable(0));
        check.due("23: one inside", true, () -> x.isStable(1));
        check.due("23: one in a hall that is not", false, () -> x.isStable(2));
        check.due("23: a digit too many", false, () -> x.isStable(11));
        check.due("23: digit 9", false, () -> x.isStable(9));
    }

    private void promise26IsSound() {
        Twelvehundred x = new Twelvehundred();
        check.due("26: new", true, () -> x.isSound());
        Twelvehundred y = contested();
        check.due("26: contested", true, () -> y.isSound());
        for (int i = 0; i < 27; i++) {
            y.rooms(0, i % 3);
            y.rooms(1, i / 3 % 3);
            y.rooms(2, i / 9);
            check.due("26: rooms of kind " + i, true, () -> y.isSound());
        }
        y.lot(9, 0);
        y.lot(9, 4);
        y.give(12);
        y.list(1);
        y.list(2);
        y.strike(1, true);
        y.pass(3);
        check.due("26: given", true, () -> y.isSound());
        y.pass(3);
        check.due("26: spoilt", true, () -> y.isSound());
        y.household(1, 3, false);
        y.household(2, 7, true);
        y.river(80, 9);
        check.due("26: the water comes", true, () -> y.isSound());
        y.pass(2);
        check.due("26: the water is there", true, () -> y.isSound());
    }

    private void promise26IsSoundOfMeals() {
        Twelvehundred x = new Twelvehundred();
        for (int hours = 0; hours < 10; hours++) {
            x.lot(9, hours);
            check.due("26: lots of all hours", true, () -> x.isSound());
        }
        for (int hour = 0; hour < 10; hour++) {
            x.give(4);
            check.due("26: some given", true, () -> x.isSound());
            x.pass(1);
            check.due("26: some spoilt", true, () -> x.isSound());
        }
        check.due("26: none left", 0, () -> x.county(12));
        check.due("26: all counted", 90, () -> x.county(13) + x.county(14));
        x.give(99);
        check.due("26: missing ones are none of it", true, () -> x.isSound());
    }

    /** Nobody can be fetched, or some, or all: by as many as can be it is sound each time. */
    private void promise26IsSoundOfThoseAtHome() {
        for (int buses = 0; buses <= 3; buses++) {
            for (int rise = -1; rise <= 3; rise++) {
                Twelvehundred x = Sheltered.streets(9, 11, 12, 13);
                x.river(8, 0);
                for (int i = 0; i < 6; i++) {
                    x.household(i % 4, 9 - i, false);
                }
                x.buses(buses);
                x.river(10, rise);
                check.due("26: " + buses + " buses, rise " + rise, true, () -> x.isSound());
            }
        }
    }

    private void promise26IsSoundOfPersons() {
        Twelvehundred x = new Twelvehundred();
        int[] apart = {11111, 22222, 33333, 44444, 55555, 66666, 77777, 88888, 99999, 12, 34, 56};
        for (int name : apart) {
            x.list(name);
            check.due("26: as many persons as listed ones", true, () -> x.isSound());
        }
        check.due("26: twelve of twelve", 12, () -> x.county(17));
        for (int listed = 0; listed < 12; listed++) {
            x.strike(listed, true);
            check.due("26: fewer", true, () -> x.isSound());
        }
        check.due("26: none of twelve", 0, () -> x.county(17));
        check.due("26: a full county", true, () -> Sheltered.full().isSound());
    }

    private void promise27Digest() {
        Twelvehundred x = new Twelvehundred();
        check.due("27: new", digestOf(x), () -> x.digest());
        Twelvehundred y = contested();
        digestIsAsDue(y, "contested");
        y.lot(30, 3);
        y.lot(3, 9);
        digestIsAsDue(y, "lots");
        check.due("27: what would() adds to it", 20, () -> y.would(20, 3));
        digestIsAsDue(y, "twice the same");
        Twelvehundred z = contested();
        z.list(4);
        z.household(0, 5, true);
        digestIsAsDue(z, "one at home");
        long before = z.digest();
        z.knock();
        check.due("27: moves", false, () -> before == z.digest());
        digestIsAsDue(z, "moves as due");
        digestIsAsDue(Sheltered.full(), "full");
        digestIsAsDue(Sheltered.inHour(500), "in the last hour");
    }

    /** It asks what would be there of 20 meals in 3 hours: not of more, and not in an hour ahead or behind. */
    private void promise27DigestOfWhatWouldBe() {
        int[][] lots = {{19, 3}, {20, 3}, {21, 3}, {9, 2}, {9, 4}};
        for (int[] lot : lots) {
            Twelvehundred x = new Twelvehundred();
            x.lot(lot[0], lot[1]);
            digestIsAsDue(x, lot[0] + " meals for " + lot[1] + " hours");
        }
    }

    private void digestIsAsDue(Twelvehundred x, String label) {
        check.due("27: " + label, digestOf(x), () -> x.digest());
    }

    /** The sum in whole, of which the lowest 64 bits are left when it has wrapped around. */
    private static long digestOf(Twelvehundred x) {
        List<Integer> values = new ArrayList<>();
        for (int what = 0; what <= 18; what++) {
            values.add(x.county(what));
        }
        for (int i = 0; i < x.county(0) * 5; i++) {
            values.add(x.ofStreet(i / 5, i % 5));
        }
        for (int i = 0; i < x.county(2) * 6; i++) {
            values.add(x.ofHousehold(i / 6, i % 6));
        }
        for (int i = 0; i < x.county(1) * 4; i++) {
            values.add(x.ofHall(i / 4, i % 4));
        }
        for (int i = 0; !Check.answerOf(lotOf(x, i)).startsWith("throws"); i++) {
            values.add(x.ofLot(i, 0));
            values.add(x.ofLot(i, 1));
        }
        values.add(x.chosen());
        values.add(x.would(20, 3));
        values.add(x.signs().length());
        values.add(x.isSound() ? 1 : 0);
        BigInteger d = BigInteger.valueOf(8609);
        for (int v : values) {
            d = d.multiply(BigInteger.valueOf(31)).add(BigInteger.valueOf(v));
        }
        return d.longValue();
    }

    private static Check.Call lotOf(Twelvehundred x, int lot) {
        return () -> x.ofLot(lot, 0);
    }
}
