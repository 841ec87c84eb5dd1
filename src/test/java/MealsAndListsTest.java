/** Promises 10 to 14, 18, 24 and 25, and parts 4 and 5 of the description: meals and lists. */
public final class MealsAndListsTest {
    private static final int FAR = Integer.MAX_VALUE;
    private static final int FAR_BELOW = Integer.MIN_VALUE;

    private final Check check = new Check();

    public static void main(String[] args) {
        MealsAndListsTest test = new MealsAndListsTest();
        test.promise10Lot();
        test.promise11Give();
        test.promise11GiveThoseThatLastLeastFirst();
        test.part4LotsAreAtMostTen();
        test.part4MealsLastUntilTheirHour();
        test.part4MealsAreGivenInTheirLastHour();
        test.part4WhatIsNotThereIsMissing();
        test.part4OfAsLongOnesTheSmallerNumber();
        test.promise12List();
        test.promise13Strike();
        test.promise13Persons();
        test.promise14Knock();
        test.promise18OfLot();
        test.promise24Would();
        test.promise24WouldBehindTheLastHour();
        test.promise25AreAlike();
        test.part5NamesHaveOneToFiveDigits();
        test.part5NamesHaveNoZero();
        test.part5ListedAreAtMostTwelve();
        test.part5AlikeAreAtMostOneDigitApart();
        test.part5StruckOnesLinkNobody();
        test.check.end("MealsAndListsTest");
    }

    private void promise10Lot() {
        Twelvehundred x = new Twelvehundred();
        x.pass(7);
        check.due("10: first", 0, () -> x.lot(1, 0));
        check.due("10: second", 1, () -> x.lot(99, 99));
        check.due("10: ends in this hour", 7, () -> x.ofLot(0, 1));
        check.due("10: ends late", 106, () -> x.ofLot(1, 1));
        check.due("10: meals", 100, () -> x.county(12));
        for (int wrong : new int[] {0, -1, 100, FAR, FAR_BELOW}) {
            check.argument("10: meals " + wrong, x, () -> x.lot(wrong, 0));
        }
        for (int wrong : new int[] {-1, 100, FAR, FAR_BELOW}) {
            check.argument("10: hours " + wrong, x, () -> x.lot(1, wrong));
        }
        for (int number = 2; number < 10; number++) {
            check.due("10: lot", number, () -> x.lot(2, 2));
        }
        check.state("10: an eleventh", x, () -> x.lot(1, 0));
        check.argument("10: an eleventh that is wrong", x, () -> x.lot(0, 0));
        x.give(99);
        x.pass(1);
        check.state("10: empty ones count as well", x, () -> x.lot(1, 0));
    }

    private void promise11Give() {
        Twelvehundred x = new Twelvehundred();
        check.due("11: there is none", 0, () -> x.give(3));
        check.due("11: missing", 3, () -> x.county(15));
        x.lot(10, 5);
        check.due("11: of more", 4, () -> x.give(4));
        check.due("11: of less", 6, () -> x.give(99));
        check.due("11: given", 10, () -> x.county(13));
        check.due("11: missing in all", 96, () -> x.county(15));
        check.due("11: left", 0, () -> x.county(12));
        for (int wrong : new int[] {0, -1, 100, FAR, FAR_BELOW}) {
            check.argument("11: meals " + wrong, x, () -> x.give(wrong));
        }
        x.lot(8, 0);
        x.pass(1);
        check.due("11: spoilt ones are not given", 0, () -> x.give(1));
        check.due("11: spoilt", 8, () -> x.county(14));
        check.due("11: what is given does not spoil", 10, () -> x.county(13));
    }

    private void promise11GiveThoseThatLastLeastFirst() {
        Twelvehundred x = new Twelvehundred();
        x.lot(5, 9);
        x.lot(5, 3);
        x.pass(1);
        x.lot(5, 2);
        x.lot(5, 1);
        leftIs(x, "11: as they came", 5, 5, 5, 5);
        x.give(2);
        leftIs(x, "11: the shortest", 5, 5, 5, 3);
        x.give(4);
        leftIs(x, "11: of as long ones the smaller number", 5, 4, 5, 0);
        x.give(6);
        leftIs(x, "11: then the other", 5, 0, 3, 0);
        x.give(4);
        leftIs(x, "11: then the longest", 4, 0, 0, 0);
        x.give(3);
        x.give(1);
        leftIs(x, "11: and its last meal", 0, 0, 0, 0);
    }

    private void leftIs(Twelvehundred x, String label, int... left) {
        for (int lot = 0; lot < left.length; lot++) {
            int asked = lot;
            check.due(label + ", lot " + lot, left[lot], () -> x.ofLot(asked, 0));
        }
    }

    private void part4LotsAreAtMostTen() {
        Twelvehundred x = new Twelvehundred();
        for (int number = 0; number < 10; number++) {
            check.due("lot " + number, number, () -> x.lot(99, 99));
        }
        check.state("lot 10", x, () -> x.lot(99, 99));
        check.due("all of them are left", 990, () -> x.county(12));
        check.due("the last is asked", 99, () -> x.ofLot(9, 0));
        check.index("none behind it", x, () -> x.ofLot(10, 0));
        for (int i = 0; i < 10; i++) {
            check.due("given", 99, () -> x.give(99));
        }
        check.due("none is left", 0, () -> x.county(12));
        check.due("all are given", 990, () -> x.county(13));
        check.due("none is missing", 0, () -> x.county(15));
        check.state("empty ones count as well", x, () -> x.lot(1, 0));
        check.due("the last is asked still", 0, () -> x.ofLot(9, 0));
    }

    private void part4MealsLastUntilTheirHour() {
        for (int hours : new int[] {0, 1, 2, 47, 48, 98, 99}) {
            Twelvehundred x = Sheltered.inHour(5);
            x.lot(7, hours);
            check.due("would be there in their last hour", 7, () -> x.would(99, hours));
            if (hours < 99) {
                check.due("would not be behind it", 0, () -> x.would(99, hours + 1));
            }
            for (int left = hours; left > 0; left -= 48) {
                x.pass(Math.min(left, 48));
            }
            leftIs(x, "their last hour, " + hours, 7);
            check.due("none is spoilt", 0, () -> x.county(14));
            check.due("so many are left", 7, () -> x.county(12));
            x.pass(1);
            leftIs(x, "behind it, " + hours, 0);
            check.due("all are spoilt", 7, () -> x.county(14));
            check.due("none is left", 0, () -> x.county(12));
            check.due("the last hour is told still", 5 + hours, () -> x.ofLot(0, 1));
            x.pass(1);
            check.due("they are spoilt once", 7, () -> x.county(14));
        }
    }

    private void part4MealsAreGivenInTheirLastHour() {
        Twelvehundred x = new Twelvehundred();
        x.lot(9, 1);
        x.lot(9, 2);
        x.pass(1);
        check.due("in the last hour", 4, () -> x.give(4));
        leftIs(x, "of the first", 5, 9);
        x.pass(1);
        check.due("what was left is spoilt", 5, () -> x.county(14));
        check.due("of the other alone", 9, () -> x.give(10));
        check.due("one is missing", 1, () -> x.county(15));
        x.pass(1);
        check.due("what is given does not spoil", 5, () -> x.county(14));
        check.due("given", 13, () -> x.county(13));
    }

    private void part4WhatIsNotThereIsMissing() {
        for (int wanted = 97; wanted <= 99; wanted++) {
            Twelvehundred x = new Twelvehundred();
            x.lot(90, 0);
            x.lot(8, 0);
            int told = wanted;
            check.due("would be given of 98", Math.min(98, told), () -> x.would(told, 0));
            check.due("given of 98", Math.min(98, told), () -> x.give(told));
            check.due("missing of " + told, Math.max(0, told - 98), () -> x.county(15));
            check.due("left of 98", Math.max(0, 98 - told), () -> x.county(12));
        }
    }

    private void part4OfAsLongOnesTheSmallerNumber() {
        Twelvehundred x = new Twelvehundred();
        x.lot(3, 2);
        x.pass(1);
        x.lot(3, 1);
        x.pass(1);
        x.lot(3, 0);
        x.give(1);
        leftIs(x, "the smallest", 2, 3, 3);
        x.give(2);
        leftIs(x, "the smallest to its end", 0, 3, 3);
        x.give(4);
        leftIs(x, "the next, and one of the last", 0, 0, 2);
    }

    private void promise12List() {
        Twelvehundred x = new Twelvehundred();
        check.due("12: shortest", 0, () -> x.list(1));
        check.due("12: longest", 1, () -> x.list(99999));
        check.due("12: twice", 2, () -> x.list(99999));
        check.due("12: listed", 3, () -> x.county(16));
        check.due("12: persons", 2, () -> x.county(17));
        for (int wrong : new int[] {0, 10, 101, 11110, 90909, 100000, 111111, 99990, -1, -12345, FAR, FAR_BELOW}) {
            check.argument("12: name " + wrong, x, () -> x.list(wrong));
        }
        for (int number = 3; number < 12; number++) {
            check.due("12: list", number, () -> x.list(555));
        }
        check.state("12: a thirteenth", x, () -> x.list(1));
        check.argument("12: a thirteenth that is no name", x, () -> x.list(10));
        x.strike(0, true);
        check.state("12: struck ones count as well", x, () -> x.list(1));
        check.due("12: so they do when asked", 12, () -> x.county(16));
    }

    private void promise13Strike() {
        Twelvehundred x = new Twelvehundred();
        check.index("13: nobody is listed", x, () -> x.strike(0, true));
        for (int name : new int[] {111, 112, 122, 222, 777}) {
            x.list(name);
        }
        check.due("13: a chain and one", 2, () -> x.county(17));
        check.due("13: the chain is broken", 3, () -> x.strike(1, true));
        check.due("13: struck twice is struck", 3, () -> x.strike(1, true));
        check.due("13: a part of it is gone", 2, () -> x.strike(0, true));
        check.due("13: the single one is gone", 1, () -> x.strike(4, true));
        check.due("13: the single one is back", 2, () -> x.strike(4, false));
        check.due("13: the link is back", 2, () -> x.strike(1, false));
        check.due("13: taken back twice is there", 2, () -> x.strike(1, false));
        check.due("13: never struck", 2, () -> x.strike(3, false));
        for (int wrong : new int[] {-1, 5, FAR, FAR_BELOW}) {
            check.index("13: listed " + wrong, x, () -> x.strike(wrong, true));
            check.index("13: taken back " + wrong, x, () -> x.strike(wrong, false));
        }
        for (int i = 0; i < 5; i++) {
            x.strike(i, true);
        }
        check.due("13: all are struck", 0, () -> x.county(17));
        check.due("13: and listed", 5, () -> x.county(16));
    }

    private void promise13Persons() {
        personsAre(1, 111, 112, 113);
        personsAre(1, 11, 22, 12, 21);
        personsAre(1, 11, 33, 22, 12, 21, 13);
        personsAre(2, 1111, 11, 5, 111, 1112);
        personsAre(3, 123, 321, 213);
        personsAre(1, 7, 7, 7, 7);
        personsAre(12, 11111, 22222, 33333, 44444, 55555, 66666, 77777, 88888, 99999, 12, 34, 56);
        personsAre(1, 1, 12, 123, 1234, 12345, 22345, 22445, 22455, 22456, 33, 23, 13);
    }

    private void personsAre(int due, int... names) {
        Twelvehundred x = new Twelvehundred();
        Twelvehundred backwards = new Twelvehundred();
        for (int i = 0; i < names.length; i++) {
            x.list(names[i]);
            backwards.list(names[names.length - 1 - i]);
        }
        check.due("13: persons from " + names[0], due, () -> x.county(17));
        check.due("13: persons to " + names[0], due, () -> backwards.county(17));
    }

    private void promise14Knock() {
        Twelvehundred x = new Twelvehundred();
        check.due("14: first", 1, () -> x.knock());
        check.due("14: second", 2, () -> x.knock());
        check.due("14: counted", 2, () -> x.county(18));
        x.pass(48);
        x.list(1);
        x.strike(0, true);
        check.due("14: as many ever", 3, () -> x.knock());
    }

    private void promise18OfLot() {
        Twelvehundred x = new Twelvehundred();
        check.index("18: no lot", x, () -> x.ofLot(0, 0));
        x.lot(30, 2);
        check.due("18: left", 30, () -> x.ofLot(0, 0));
        check.due("18: last hour", 2, () -> x.ofLot(0, 1));
        x.give(4);
        x.pass(2);
        check.due("18: in its last hour", 26, () -> x.ofLot(0, 0));
        check.due("18: none is spoilt", 0, () -> x.county(14));
        x.pass(1);
        check.due("18: behind its last hour", 0, () -> x.ofLot(0, 0));
        check.due("18: the last hour stays", 2, () -> x.ofLot(0, 1));
        check.due("18: the rest is spoilt", 26, () -> x.county(14));
        for (int wrong : new int[] {-1, 1, FAR, FAR_BELOW}) {
            check.index("18: lot " + wrong, x, () -> x.ofLot(wrong, 0));
        }
        for (int wrong : new int[] {-1, 2, FAR, FAR_BELOW}) {
            check.argument("18: what " + wrong, x, () -> x.ofLot(0, wrong));
        }
        check.index("18: both wrong", x, () -> x.ofLot(1, 2));
    }

    private void promise24Would() {
        Twelvehundred x = new Twelvehundred();
        check.due("24: of none", 0, () -> x.would(1, 0));
        x.lot(10, 0);
        x.lot(20, 3);
        x.lot(40, 99);
        check.due("24: now", 70, () -> x.would(99, 0));
        check.due("24: no more than asked", 69, () -> x.would(69, 0));
        check.due("24: without those of this hour", 60, () -> x.would(99, 1));
        check.due("24: in a last hour", 60, () -> x.would(99, 3));
        check.due("24: behind it", 40, () -> x.would(99, 4));
        check.due("24: at the latest", 40, () -> x.would(99, 99));
        check.due("24: one of it", 1, () -> x.would(1, 99));
        check.due("24: nothing is changed", 70, () -> x.county(12));
        x.give(15);
        check.due("24: of what is left", 55, () -> x.would(99, 2));
        for (int wrong : new int[] {0, -1, 100, FAR, FAR_BELOW}) {
            check.argument("24: meals " + wrong, x, () -> x.would(wrong, 0));
        }
        for (int wrong : new int[] {-1, 100, FAR, FAR_BELOW}) {
            check.argument("24: hours " + wrong, x, () -> x.would(1, wrong));
        }
    }

    private void promise24WouldBehindTheLastHour() {
        Twelvehundred x = new Twelvehundred();
        for (int i = 0; i < 10; i++) {
            x.pass(48);
        }
        x.pass(20);
        x.lot(9, 50);
        x.lot(8, 98);
        check.due("24: above hour 500", 17, () -> x.would(20, 50));
        check.due("24: far above hour 500", 8, () -> x.would(20, 51));
        check.due("24: farthest above hour 500", 0, () -> x.would(20, 99));
        x.lot(7, 99);
        check.due("24: farthest above hour 500, one that lasts", 7, () -> x.would(20, 99));
        check.due("10: a last hour above 500", 598, () -> x.ofLot(1, 1));
        check.due("10: the last of all last hours", 599, () -> x.ofLot(2, 1));
    }

    private void promise25AreAlike() {
        Twelvehundred x = new Twelvehundred();
        int[][] alike = {{5, 5}, {12345, 12345}, {1, 9}, {12345, 92345}, {12345, 12945}, {12345, 12349}, {1, 12},
            {1, 21}, {1234, 12345}, {2345, 12345}, {1245, 12345}, {111, 1111}, {1122, 112}, {1212, 212}};
        for (int[] pair : alike) {
            check.due("25: " + pair[0] + " and " + pair[1], true, () -> x.areAlike(pair[0], pair[1]));
            check.due("25: " + pair[1] + " and " + pair[0], true, () -> x.areAlike(pair[1], pair[0]));
        }
        int[][] other = {{12, 21}, {1, 22}, {1, 123}, {123, 345}, {12345, 54321}, {12345, 12354}, {12345, 345},
            {123, 2314}, {1234, 2341}, {11, 22}, {123, 1432}, {9, 99999}, {12345, 23456}};
        for (int[] pair : other) {
            check.due("25: " + pair[0] + " and " + pair[1], false, () -> x.areAlike(pair[0], pair[1]));
            check.due("25: " + pair[1] + " and " + pair[0], false, () -> x.areAlike(pair[1], pair[0]));
        }
        for (int wrong : new int[] {0, 10, 105, 11110, 100000, 111111, -1, -11, FAR, FAR_BELOW}) {
            check.argument("25: one " + wrong, x, () -> x.areAlike(wrong, 1));
            check.argument("25: other " + wrong, x, () -> x.areAlike(1, wrong));
            check.argument("25: both " + wrong, x, () -> x.areAlike(wrong, wrong));
        }
        check.due("25: nobody is listed by it", 0, () -> x.county(16));
    }

    private void part5NamesHaveOneToFiveDigits() {
        for (int name : new int[] {1, 9, 11, 99, 111, 999, 1111, 9999, 11111, 99999}) {
            Twelvehundred x = new Twelvehundred();
            check.due("listed " + name, 0, () -> x.list(name));
            check.due("alike " + name, true, () -> x.areAlike(name, name));
            check.argument("below 0 " + name, x, () -> x.list(-name));
        }
        Twelvehundred x = new Twelvehundred();
        for (int name : new int[] {0, 100000, 111111, 999999, 1111111, 11111111, 1111111111}) {
            check.argument("listed " + name, x, () -> x.list(name));
            check.argument("alike " + name, x, () -> x.areAlike(name, 1) || x.areAlike(1, name));
        }
    }

    private void part5NamesHaveNoZero() {
        for (int zero = 1; zero <= 1000; zero *= 10) {
            Twelvehundred x = new Twelvehundred();
            int name = 22222 - 2 * zero;
            int allowed = 22222 - zero;
            check.argument("a digit is 0 in " + name, x, () -> x.list(name));
            check.argument("one with it " + name, x, () -> x.areAlike(name, allowed));
            check.argument("other with it " + name, x, () -> x.areAlike(allowed, name));
            check.due("a digit is 1 in " + allowed, 0, () -> x.list(allowed));
        }
    }

    private void part5ListedAreAtMostTwelve() {
        Twelvehundred x = new Twelvehundred();
        for (int number = 0; number < 12; number++) {
            check.due("listed " + number, number, () -> x.list(99999));
        }
        check.state("listed 12", x, () -> x.list(99999));
        check.due("the last is struck", 1, () -> x.strike(11, true));
        check.index("none behind it is", x, () -> x.strike(12, true));
        check.state("struck ones count as well", x, () -> x.list(99999));
        for (int number = 0; number < 10; number++) {
            int who = number;
            check.due("persons behind " + who, 1, () -> x.strike(who, true));
        }
        check.due("persons behind the last", 0, () -> x.strike(10, true));
        check.due("twelve are listed still", 12, () -> x.county(16));
    }

    private void part5AlikeAreAtMostOneDigitApart() {
        int[][] pairs = {
            {1, 2, 1}, {12, 32, 1}, {12, 13, 1}, {12, 34, 0}, {12345, 92345, 1}, {12345, 12395, 1}, {12345, 92395, 0},
            {1, 12, 1}, {1, 123, 0}, {12, 1, 1}, {12, 2, 1}, {12, 3, 0}, {123, 13, 1}, {123, 31, 0}, {123, 3, 0},
            {12345, 1234, 1}, {12345, 2345, 1}, {12345, 1245, 1}, {12345, 1254, 0}, {12345, 123, 0},
            {1111, 11111, 1}, {111, 11111, 0}, {1112, 11111, 0}, {12, 21, 0}, {121, 212, 0}, {99999, 99999, 1}};
        Twelvehundred x = new Twelvehundred();
        for (int[] pair : pairs) {
            check.due(pair[0] + " and " + pair[1], pair[2] == 1, () -> x.areAlike(pair[0], pair[1]));
            check.due(pair[1] + " and " + pair[0], pair[2] == 1, () -> x.areAlike(pair[1], pair[0]));
            personsAre(2 - pair[2], pair[0], pair[1]);
        }
    }

    private void part5StruckOnesLinkNobody() {
        Twelvehundred x = new Twelvehundred();
        check.due("none is listed", 0, () -> x.county(17));
        for (int name : new int[] {1, 12, 123, 1234, 12345}) {
            x.list(name);
        }
        check.due("a chain", 1, () -> x.county(17));
        check.due("its end is struck", 1, () -> x.strike(0, true));
        check.due("its middle, too", 2, () -> x.strike(2, true));
        check.due("all but the ends of it", 2, () -> x.strike(3, true));
        check.due("one end is left", 1, () -> x.strike(1, true));
        check.due("nobody is left", 0, () -> x.strike(4, true));
        check.due("its first is back", 1, () -> x.strike(0, false));
        check.due("and its last", 2, () -> x.strike(4, false));
        check.due("and its second", 2, () -> x.strike(1, false));
        check.due("and its fourth", 2, () -> x.strike(3, false));
        check.due("and its link", 1, () -> x.strike(2, false));
        check.due("all were listed ever", 5, () -> x.county(16));
    }
}
