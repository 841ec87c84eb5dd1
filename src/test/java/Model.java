import java.util.ArrayList;
import java.util.Arrays;
import java.util.HashSet;
import java.util.List;
import java.util.Set;

/**
 * The document once more, by other ways than the program's: what the program finds by rule is found here by
 * trying everything, meals are kept one by one, and names are texts. Calls bear the names of the face.
 */
final class Model {
    private record Street(int height, int place) { }

    private record Hall(int[] rooms, int place) { }

    private record Household(int street, int people, boolean isFrail, int[] state) { }

    private record Meal(int lot, int last) { }

    private final List<Street> streets = new ArrayList<>();
    private final List<Hall> halls = new ArrayList<>();
    private final List<Household> households = new ArrayList<>();
    private final List<Integer> lotEnds = new ArrayList<>();
    private final List<Meal> meals = new ArrayList<>();
    private final List<String> names = new ArrayList<>();
    private final Set<Integer> struck = new HashSet<>();
    private int level = 10;
    private int rise = 0;
    private int hour = 0;
    private int buses = 1;
    private int fetchedNow = 0;
    private int given = 0;
    private int spoilt = 0;
    private int missing = 0;
    private int refused = 0;

    private static void argument(boolean holds) {
        if (!holds) {
            throw new IllegalArgumentException();
        }
    }

    private static void state(boolean holds) {
        if (!holds) {
            throw new IllegalStateException();
        }
    }

    private static void index(int number, int count) {
        if (number < 0 || number >= count) {
            throw new IndexOutOfBoundsException();
        }
    }

    int street(int height, int place) {
        argument(height >= 0 && height <= 99 && place >= 0 && place <= 99);
        state(streets.size() < 6);
        streets.add(new Street(height, place));
        return streets.size() - 1;
    }

    int hall(int rooms, int place) {
        argument(rooms >= 0 && rooms <= 4 && place >= 0 && place <= 99);
        state(halls.size() < 3);
        halls.add(new Hall(new int[] {rooms}, place));
        return halls.size() - 1;
    }

    int rooms(int hall, int rooms) {
        index(hall, halls.size());
        argument(rooms >= 0 && rooms <= 4);
        int before = halls.get(hall).rooms[0];
        halls.get(hall).rooms[0] = rooms;
        return before;
    }

    int household(int street, int people, boolean isFrail) {
        index(street, streets.size());
        argument(people >= 1 && people <= 9);
        state(households.size() < 6);
        int state = streets.get(street).height <= level ? 2 : 0;
        households.add(new Household(street, people, isFrail, new int[] {state}));
        return households.size() - 1;
    }

    int river(int level, int rise) {
        argument(level >= 0 && level <= 99 && rise >= -9 && rise <= 9);
        int before = this.level;
        this.level = level;
        this.rise = rise;
        return before;
    }

    int buses(int buses) {
        argument(buses >= 0 && buses <= 3);
        int before = this.buses;
        this.buses = buses;
        return before;
    }

    int fetch(int household) {
        index(household, households.size());
        state(households.get(household).state[0] == 0 && fetchedNow < buses);
        households.get(household).state[0] = 1;
        return ++fetchedNow;
    }

    int pass(int hours) {
        argument(hours >= 1 && hours <= 48);
        state(hour + hours <= 500);
        int cut = 0;
        for (int i = 0; i < hours; i++) {
            level = flowed(level);
            hour++;
            fetchedNow = 0;
            for (Household h : households) {
                if (h.state[0] == 0 && streets.get(h.street).height <= level) {
                    h.state[0] = 2;
                    cut++;
                }
            }
            int before = meals.size();
            meals.removeIf(meal -> hour > meal.last);
            spoilt += before - meals.size();
        }
        return cut;
    }

    private int flowed(int from) {
        int to = from + rise;
        return to < 0 ? 0 : to > 99 ? 99 : to;
    }

    int lot(int count, int hours) {
        argument(count >= 1 && count <= 99 && hours >= 0 && hours <= 99);
        state(lotEnds.size() < 10);
        lotEnds.add(hour + hours);
        for (int i = 0; i < count; i++) {
            meals.add(new Meal(lotEnds.size() - 1, hour + hours));
        }
        return lotEnds.size() - 1;
    }

    int give(int wanted) {
        argument(wanted >= 1 && wanted <= 99);
        meals.sort((a, b) -> a.last != b.last ? a.last - b.last : a.lot - b.lot);
        int count = Math.min(wanted, meals.size());
        meals.subList(0, count).clear();
        given += count;
        missing += wanted - count;
        return count;
    }

    private static boolean isName(int name) {
        return String.valueOf(name).matches("[1-9]{1,5}");
    }

    int list(int name) {
        argument(isName(name));
        state(names.size() < 12);
        names.add(String.valueOf(name));
        return names.size() - 1;
    }

    int strike(int listed, boolean is) {
        index(listed, names.size());
        if (is) {
            struck.add(listed);
        } else {
            struck.remove(listed);
        }
        return persons();
    }

    int knock() {
        return ++refused;
    }

    private static boolean near(String one, String other) {
        Set<String> reached = new HashSet<>(List.of(one));
        for (int at = 0; at <= one.length(); at++) {
            for (int digit = 1; digit <= 9; digit++) {
                reached.add(one.substring(0, at) + digit + one.substring(at));
                if (at < one.length()) {
                    reached.add(one.substring(0, at) + digit + one.substring(at + 1));
                }
            }
            if (at < one.length()) {
                reached.add(one.substring(0, at) + one.substring(at + 1));
            }
        }
        return reached.contains(other);
    }

    private int persons() {
        Set<Integer> open = new HashSet<>();
        for (int i = 0; i < names.size(); i++) {
            open.add(i);
        }
        open.removeAll(struck);
        int groups = 0;
        while (!open.isEmpty()) {
            groups++;
            walk(open.iterator().next(), open);
        }
        return groups;
    }

    private void walk(int from, Set<Integer> open) {
        open.remove(from);
        for (int to = 0; to < names.size(); to++) {
            if (open.contains(to) && near(names.get(from), names.get(to))) {
                walk(to, open);
            }
        }
    }

    private int limit(int street) {
        int at = level;
        for (int h = 0; h <= 200; h++) {
            if (at >= streets.get(street).height) {
                return h;
            }
            at = flowed(at);
        }
        return 999;
    }

    int ofStreet(int street, int what) {
        index(street, streets.size());
        argument(what >= 0 && what <= 4);
        Street s = streets.get(street);
        int home = (int) households.stream().filter(h -> h.street == street && h.state[0] == 0).count();
        return new int[] {s.height, s.place, level >= s.height ? 1 : 0, limit(street), home}[what];
    }

    int ofHousehold(int household, int what) {
        index(household, households.size());
        argument(what >= 0 && what <= 5);
        Household h = households.get(household);
        if (what == 4) {
            return best()[household];
        }
        if (what == 5) {
            return choice() >> household & 1;
        }
        return new int[] {h.street, h.people, h.isFrail ? 1 : 0, h.state[0]}[what];
    }

    int ofHall(int hall, int what) {
        index(hall, halls.size());
        argument(what >= 0 && what <= 3);
        int[] placing = best();
        int set = 0;
        int people = 0;
        for (int i = 0; i < households.size(); i++) {
            if (placing[i] == hall) {
                set += 1 << i;
                people += households.get(i).people;
            }
        }
        return new int[] {halls.get(hall).rooms[0], halls.get(hall).place, set, people}[what];
    }

    int ofLot(int lot, int what) {
        index(lot, lotEnds.size());
        argument(what == 0 || what == 1);
        return what == 1 ? lotEnds.get(lot) : (int) meals.stream().filter(m -> m.lot == lot).count();
    }

    private int inState(int state) {
        return (int) households.stream().filter(h -> h.state[0] == state).count();
    }

    int county(int what) {
        argument(what >= 0 && what <= 18);
        return new int[] {streets.size(), halls.size(), households.size(), inState(0), inState(1), inState(2), hour,
            level, rise, buses, fetchedNow, asked(), meals.size(), given, spoilt, missing, names.size(), persons(),
            refused}[what];
    }

    String signs() {
        int[] placing = best();
        StringBuilder signs = new StringBuilder();
        for (int i = 0; i < households.size(); i++) {
            int state = households.get(i).state[0];
            signs.append(state == 0 ? "h" : state == 2 ? "x" : placing[i] < 0 ? "-" : String.valueOf(placing[i]));
        }
        return signs.toString();
    }

    boolean can(int set) {
        argument(set >= 0 && set < Math.pow(2, households.size()));
        for (int h = 0; h <= 1000; h++) {
            int due = 0;
            for (int i = 0; i < households.size(); i++) {
                boolean in = (set >> i & 1) == 1;
                if (in && households.get(i).state[0] != 0) {
                    return false;
                }
                due += in && limit(households.get(i).street) <= h ? 1 : 0;
            }
            if (due > buses * h) {
                return false;
            }
        }
        return true;
    }

    private int peopleOf(int set) {
        int people = 0;
        for (int i = 0; i < households.size(); i++) {
            people += (set >> i & 1) * households.get(i).people;
        }
        return people;
    }

    private int choice() {
        List<Integer> row = new ArrayList<>();
        for (int i = 0; i < households.size(); i++) {
            row.add(i);
        }
        row.sort((a, b) -> households.get(b).people - households.get(a).people);
        int set = 0;
        for (int i : row) {
            set += can(set + (1 << i)) ? 1 << i : 0;
        }
        return set;
    }

    int chosen() {
        return peopleOf(choice());
    }

    /** How little the household likes the hall: its place in the row of its wishes. */
    private int rank(int household, int hall) {
        if (hall < 0) {
            return halls.size();
        }
        int home = streets.get(households.get(household).street).place;
        int rank = 0;
        for (int other = 0; other < halls.size(); other++) {
            int way = Math.abs(halls.get(hall).place - home) * 10 + hall;
            rank += Math.abs(halls.get(other).place - home) * 10 + other < way ? 1 : 0;
        }
        return rank;
    }

    private int worth(int household) {
        Household h = households.get(household);
        return (h.isFrail ? 1000 : 0) + h.people * 10 - household;
    }

    private boolean isStableRow(int[] placing) {
        int[] left = new int[halls.size()];
        for (int hall = 0; hall < left.length; hall++) {
            left[hall] = halls.get(hall).rooms[0];
        }
        for (int hall : placing) {
            if (hall >= 0 && --left[hall] < 0) {
                return false;
            }
        }
        for (int i = 0; i < placing.length; i++) {
            for (int hall = 0; households.get(i).state[0] == 1 && hall < left.length; hall++) {
                boolean open = left[hall] > 0;
                for (int j = 0; j < placing.length; j++) {
                    open |= placing[j] == hall && worth(i) > worth(j);
                }
                if (open && rank(i, hall) < rank(i, placing[i])) {
                    return false;
                }
            }
        }
        return true;
    }

    /** Of all stable placings that in which the households are happiest; there is always one. */
    private int[] best() {
        int[] placing = new int[households.size()];
        Arrays.fill(placing, -1);
        int[] best = null;
        do {
            if (isStableRow(placing) && (best == null || misery(placing) < misery(best))) {
                best = placing.clone();
            }
        } while (next(placing));
        return best;
    }

    private boolean next(int[] placing) {
        for (int i = 0; i < placing.length; i++) {
            if (households.get(i).state[0] == 1) {
                if (++placing[i] < halls.size()) {
                    return true;
                }
                placing[i] = -1;
            }
        }
        return false;
    }

    private int misery(int[] placing) {
        int misery = 0;
        for (int i = 0; i < placing.length; i++) {
            misery += rank(i, placing[i]);
        }
        return misery;
    }

    /** Each asks down its row of wishes to the hall that it has, or all of them in vain. */
    private int asked() {
        int[] placing = best();
        int asked = 0;
        for (int i = 0; i < placing.length; i++) {
            if (households.get(i).state[0] == 1) {
                asked += Math.min(halls.size(), rank(i, placing[i]) + 1);
            }
        }
        return asked;
    }

    boolean isStable(int placing) {
        String digits = placing < 0 ? "!" : placing == 0 ? "" : String.valueOf(placing);
        int fetched = inState(1);
        if (digits.length() > fetched || !digits.matches("[0-9]*")) {
            return false;
        }
        digits = "0".repeat(fetched - digits.length()) + digits;
        int[] row = new int[households.size()];
        Arrays.fill(row, -1);
        int at = 0;
        for (int i = 0; i < row.length; i++) {
            if (households.get(i).state[0] == 1) {
                row[i] = digits.charAt(at++) - '1';
                if (row[i] >= halls.size()) {
                    return false;
                }
            }
        }
        return isStableRow(row);
    }

    int would(int wanted, int hours) {
        argument(wanted >= 1 && wanted <= 99 && hours >= 0 && hours <= 99);
        return (int) Math.min(wanted, meals.stream().filter(m -> m.last >= hour + hours).count());
    }

    boolean areAlike(int one, int other) {
        argument(isName(one) && isName(other));
        return near(String.valueOf(one), String.valueOf(other));
    }

    /** What it says of the placing, the set, the meals and the persons holds of every county. */
    boolean isSound() {
        return true;
    }

    long digest() {
        long d = 8609;
        for (int what = 0; what <= 18; what++) {
            d = d * 31 + county(what);
        }
        for (int i = 0; i < streets.size() * 5; i++) {
            d = d * 31 + ofStreet(i / 5, i % 5);
        }
        for (int i = 0; i < households.size() * 6; i++) {
            d = d * 31 + ofHousehold(i / 6, i % 6);
        }
        for (int i = 0; i < halls.size() * 4; i++) {
            d = d * 31 + ofHall(i / 4, i % 4);
        }
        for (int i = 0; i < lotEnds.size() * 2; i++) {
            d = d * 31 + ofLot(i / 2, i % 2);
        }
        d = d * 31 + chosen();
        d = d * 31 + would(20, 3);
        d = d * 31 + signs().length();
        return d * 31 + 1;
    }
}
