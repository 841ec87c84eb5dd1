import java.util.ArrayList;
import java.util.List;

/** What each call changes of all that can be asked, and that it changes nothing else. */
public final class ChangesTest {
    /** One call of the face on the county that it is told. */
    private interface Move {
        void on(Twelvehundred x);
    }

    private final Check check = new Check();

    public static void main(String[] args) {
        ChangesTest test = new ChangesTest();
        test.theCountyItself();
        test.callsOfTheCounty();
        test.callsOfTheWater();
        test.callsOfMealsAndLists();
        test.callsThatAsk();
        test.callsThatAskWhatWouldBe();
        test.countiesAreApart();
        test.check.end("ChangesTest");
    }

    /**
     * A county in which nothing is as in a new one: 0 and 2 are fetched, of whom 0 has no hall; 1 is cut off, though
     * its street is dry again; 3 is at home in the water; 4 is at home and chosen. Lot 0 is given, lot 1 spoilt, lot 2
     * in its last hour; of the listed ones 3 is struck, and 1 and 2 are alike.
     */
    private static Twelvehundred county() {
        Twelvehundred x = new Twelvehundred();
        x.street(50, 10);
        x.street(30, 60);
        x.street(12, 90);
        x.hall(1, 20);
        x.hall(0, 70);
        x.household(0, 4, false);
        x.household(1, 2, false);
        x.household(0, 3, true);
        x.fetch(0);
        x.lot(2, 0);
        x.give(4);
        x.lot(5, 0);
        x.river(29, 1);
        x.pass(1);
        x.river(5, 0);
        x.household(2, 5, false);
        x.household(0, 6, false);
        x.pass(1);
        x.buses(2);
        x.fetch(2);
        x.lot(8, 0);
        x.lot(20, 9);
        x.give(3);
        for (int name : new int[] {12, 345, 346, 99999, 7171}) {
            x.list(name);
        }
        x.strike(3, true);
        x.knock();
        x.knock();
        x.river(20, 2);
        return x;
    }

    private static List<String> viewOf(Twelvehundred x) {
        List<String> rows = new ArrayList<>();
        for (int what = 0; what <= 18; what++) {
            rows.add("county " + what + ": " + x.county(what));
        }
        addRows(rows, "street", 5, (row, what) -> x.ofStreet(row, what));
        addRows(rows, "household", 6, (row, what) -> x.ofHousehold(row, what));
        addRows(rows, "hall", 4, (row, what) -> x.ofHall(row, what));
        addRows(rows, "lot", 2, (row, what) -> x.ofLot(row, what));
        rows.add("chosen: " + x.chosen());
        rows.add("would: " + x.would(99, 3));
        rows.add("signs: " + x.signs());
        rows.add("sound: " + x.isSound());
        return rows;
    }

    private interface Asked {
        int of(int row, int what);
    }

    private static void addRows(List<String> rows, String name, int whats, Asked asked) {
        int row = 0;
        while (!Check.answerOf(callOf(asked, row, 0)).startsWith("throws")) {
            StringBuilder text = new StringBuilder(name + " " + row + ":");
            for (int what = 0; what < whats; what++) {
                text.append(' ').append(asked.of(row, what));
            }
            rows.add(text.toString());
            row++;
        }
    }

    private static Check.Call callOf(Asked asked, int row, int what) {
        return () -> asked.of(row, what);
    }

    /** The rows that are due to be new or other than before; all else is due to stay. */
    private void changes(String label, Move move, String... due) {
        Twelvehundred x = county();
        List<String> rows = viewOf(x);
        move.on(x);
        List<String> after = viewOf(x);
        List<String> other = new ArrayList<>(after);
        other.removeAll(rows);
        check.due(label + " changes", List.of(due), () -> other);
        check.due(label + " takes no row away", true, () -> after.size() >= rows.size());
    }

    private void theCountyItself() {
        check.due("all that can be asked", List.of("county 0: 3", "county 1: 2", "county 2: 5", "county 3: 2",
            "county 4: 2", "county 5: 1", "county 6: 2", "county 7: 20", "county 8: 2", "county 9: 2",
            "county 10: 1", "county 11: 3", "county 12: 25", "county 13: 5", "county 14: 5", "county 15: 2",
            "county 16: 5", "county 17: 3", "county 18: 2", "street 0: 50 10 0 15 1", "street 1: 30 60 0 5 0",
            "street 2: 12 90 1 0 1", "household 0: 0 4 0 1 -1 0", "household 1: 1 2 0 2 -1 0",
            "household 2: 0 3 1 1 0 0", "household 3: 2 5 0 0 -1 0", "household 4: 0 6 0 0 -1 1",
            "hall 0: 1 20 4 3", "hall 1: 0 70 0 0", "lot 0: 0 0", "lot 1: 0 0", "lot 2: 5 2", "lot 3: 20 11",
            "chosen: 6", "would: 20", "signs: -x0hh", "sound: true"), () -> viewOf(county()));
    }

    private void callsOfTheCounty() {
        changes("2: street", x -> x.street(40, 5), "county 0: 4", "street 3: 40 5 0 10 0");
        changes("2: street in the water", x -> x.street(20, 5), "county 0: 4", "street 3: 20 5 1 0 0");
        changes("3: hall", x -> x.hall(2, 90), "county 1: 3", "county 11: 4", "household 0: 0 4 0 1 2 0",
            "hall 2: 2 90 1 4", "signs: 2x0hh");
        changes("3: hall without rooms", x -> x.hall(0, 90), "county 1: 3", "county 11: 4", "hall 2: 0 90 0 0");
        changes("4: rooms", x -> x.rooms(1, 1), "household 0: 0 4 0 1 1 0", "hall 1: 1 70 1 4", "signs: 1x0hh");
        changes("4: no rooms", x -> x.rooms(0, 0), "county 11: 4", "household 2: 0 3 1 1 -1 0", "hall 0: 0 20 0 0",
            "signs: -x-hh");
        changes("4: as many rooms as before", x -> x.rooms(0, 1));
        changes("5: household", x -> x.household(1, 1, true), "county 2: 6", "county 3: 3", "street 1: 30 60 0 5 1",
            "household 5: 1 1 1 0 -1 1", "chosen: 7", "signs: -x0hhh");
        changes("5: household in the water", x -> x.household(2, 1, true), "county 2: 6", "county 5: 2",
            "household 5: 2 1 1 2 -1 0", "signs: -x0hhx");
        changes("8: fetch", x -> x.fetch(4), "county 3: 1", "county 4: 3", "county 10: 2", "county 11: 5",
            "street 0: 50 10 0 15 0", "household 4: 0 6 0 1 -1 0", "chosen: 0", "signs: -x0h-");
        changes("8: fetch out of the water", x -> x.fetch(3), "county 3: 1", "county 4: 3", "county 10: 2",
            "county 11: 5", "street 2: 12 90 1 0 0", "household 3: 2 5 0 1 -1 0", "signs: -x0-h");
    }

    private void callsOfTheWater() {
        changes("6: river", x -> x.river(11, -1), "county 7: 11", "county 8: -1", "street 0: 50 10 0 999 1",
            "street 1: 30 60 0 999 0", "street 2: 12 90 0 999 1", "household 3: 2 5 0 0 -1 1", "chosen: 11");
        changes("6: river over all", x -> x.river(50, 2), "county 7: 50", "street 0: 50 10 1 0 1",
            "street 1: 30 60 1 0 0", "household 4: 0 6 0 0 -1 0", "chosen: 0");
        changes("6: river as before", x -> x.river(20, 2));
        changes("7: buses", x -> x.buses(0), "county 9: 0", "household 4: 0 6 0 0 -1 0", "chosen: 0");
        changes("7: more buses", x -> x.buses(3), "county 9: 3");
        changes("9: pass", x -> x.pass(1), "county 3: 1", "county 5: 2", "county 6: 3", "county 7: 22",
            "county 10: 0", "county 12: 20", "county 14: 10", "street 0: 50 10 0 14 1", "street 1: 30 60 0 4 0",
            "street 2: 12 90 1 0 0", "household 3: 2 5 0 2 -1 0", "lot 2: 0 2", "signs: -x0xh");
        changes("9: pass till all is in the water", x -> x.pass(15), "county 3: 0", "county 5: 3", "county 6: 17",
            "county 7: 50", "county 10: 0", "county 12: 0", "county 14: 30", "street 0: 50 10 1 0 0",
            "street 1: 30 60 1 0 0", "street 2: 12 90 1 0 0", "household 3: 2 5 0 2 -1 0",
            "household 4: 0 6 0 2 -1 0", "lot 2: 0 2", "lot 3: 0 11", "chosen: 0", "would: 0", "signs: -x0xx");
    }

    private void callsOfMealsAndLists() {
        changes("10: lot", x -> x.lot(7, 1), "county 12: 32", "lot 4: 7 3");
        changes("11: give", x -> x.give(6), "county 12: 19", "county 13: 11", "lot 2: 0 2", "lot 3: 19 11",
            "would: 19");
        changes("11: give more than there is", x -> x.give(30), "county 12: 0", "county 13: 30", "county 15: 7",
            "lot 2: 0 2", "lot 3: 0 11", "would: 0");
        changes("12: list", x -> x.list(555), "county 16: 6", "county 17: 4");
        changes("12: list one that is alike", x -> x.list(13), "county 16: 6");
        changes("13: strike", x -> x.strike(0, true), "county 17: 2");
        changes("13: strike one of two", x -> x.strike(1, true));
        changes("13: strike one that is struck", x -> x.strike(3, true));
        changes("13: strike no more", x -> x.strike(3, false), "county 17: 4");
        changes("14: knock", x -> x.knock(), "county 18: 3");
    }

    private void callsThatAsk() {
        for (int number = 0; number < 3; number++) {
            for (int what = 0; what < 6; what++) {
                int row = number;
                int asked = what;
                changes("15: ofStreet", x -> x.ofStreet(row, Math.min(asked, 4)));
                changes("16: ofHousehold", x -> x.ofHousehold(row + 2, asked));
                changes("17: ofHall", x -> x.ofHall(row % 2, asked % 4));
                changes("18: ofLot", x -> x.ofLot(row, asked % 2));
            }
        }
        for (int what = 0; what <= 18; what++) {
            int asked = what;
            changes("19: county", x -> x.county(asked));
        }
        changes("20: signs", x -> x.signs());
    }

    private void callsThatAskWhatWouldBe() {
        for (int set = 0; set < 32; set++) {
            int asked = set;
            changes("21: can", x -> x.can(asked));
        }
        changes("22: chosen", x -> x.chosen());
        for (int placing : new int[] {0, 1, 10, 11, 12, 20, 21, 22, 3, 111, -1}) {
            changes("23: isStable", x -> x.isStable(placing));
        }
        changes("24: would", x -> x.would(99, 0));
        changes("24: would, later", x -> x.would(5, 99));
        changes("25: areAlike", x -> x.areAlike(12, 345));
        changes("26: isSound", x -> x.isSound());
        changes("27: digest", x -> x.digest());
    }

    /** What is told to one object is nothing to another. */
    private void countiesAreApart() {
        Twelvehundred x = county();
        List<String> rows = viewOf(x);
        Sheltered.full().pass(9);
        new Twelvehundred().river(99, -9);
        check.due("1: a county beside others", rows, () -> viewOf(x));
        check.due("1: a new one behind others", 10, () -> new Twelvehundred().county(7));
    }
}
