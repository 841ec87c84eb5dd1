import java.util.ArrayList;
import java.util.List;

/** Long runs of calls, the same on the program and on the model, each answer compared. */
public final class ModelTest {
    private static final int RUNS = 150;
    /** With the digest at a run's end 512, which is as many as an object is for. */
    private static final int CALLS = 511;

    private final Check check = new Check();
    private long seed;
    private Twelvehundred x;
    private Model m;
    private boolean isCalm;

    public static void main(String[] args) {
        ModelTest test = new ModelTest();
        for (int run = 0; run < RUNS; run++) {
            test.run(run);
        }
        test.everyPairOfNames();
        test.check.end("ModelTest");
    }

    /** A row of numbers that is the same each time. */
    private int upTo(int most) {
        seed = seed * 6364136223846793005L + 1442695040888963407L;
        return (int) ((seed >>> 33) % (most + 1));
    }

    /** Mostly least to most, at times just beyond, seldom far out. */
    private int near(int least, int most) {
        int kind = upTo(60);
        if (kind == 0) {
            return least - 1;
        }
        if (kind == 1) {
            return most + 1;
        }
        if (kind == 2) {
            return upTo(1) == 0 ? Integer.MIN_VALUE : Integer.MAX_VALUE;
        }
        return least + upTo(most - least);
    }

    private void run(int run) {
        seed = run * 7919L + 1;
        x = new Twelvehundred();
        m = new Model();
        // A full county refuses much, and a wild river leaves few to fetch: so runs differ in both.
        int tellings = run % 3 == 0 ? 60 : 12;
        isCalm = run % 2 == 0;
        for (int i = 0; i < tellings; i++) {
            tell(run);
        }
        for (int i = tellings; i < CALLS; i++) {
            one(run);
        }
        same(run, "digest()", () -> x.digest(), () -> m.digest());
    }

    private void same(int run, String call, Check.Call got, Check.Call want) {
        check.due("run " + run + ": " + call, Check.answerOf(want), got);
    }

    private void tell(int run) {
        int a = isCalm ? near(40, 99) : near(0, 99);
        int b = upTo(1) == 0 ? near(0, 99) : near(48, 52);
        int rooms = upTo(1) == 0 ? near(0, 4) : near(0, 1);
        int street = near(0, 3);
        int people = near(1, 9);
        boolean is = upTo(2) == 0;
        switch (upTo(2)) {
            case 0 -> same(run, "street", () -> x.street(a, b), () -> m.street(a, b));
            case 1 -> same(run, "hall", () -> x.hall(rooms, b), () -> m.hall(rooms, b));
            default -> same(run, "household", () -> x.household(street, people, is),
                () -> m.household(street, people, is));
        }
    }

    private void one(int run) {
        switch (upTo(9)) {
            case 0 -> tell(run);
            case 1, 2 -> move(run);
            case 3 -> feed(run);
            case 4 -> name(run);
            case 5, 6 -> ask(run);
            case 7, 8 -> guess(run);
            default -> whole(run);
        }
    }

    private void move(int run) {
        int rise = near(-9, 9);
        int level = isCalm ? near(0, 40) : near(0, 99);
        int who = near(0, 5);
        int hall = near(0, 2);
        int count = near(0, 4);
        int hours = upTo(3) > 0 ? near(1, 2) : near(1, 48);
        switch (upTo(7)) {
            case 0 -> same(run, "river", () -> x.river(level, rise), () -> m.river(level, rise));
            case 1 -> same(run, "river", () -> x.river(level / 4, rise / 3), () -> m.river(level / 4, rise / 3));
            case 2 -> same(run, "buses", () -> x.buses(count), () -> m.buses(count));
            case 3 -> same(run, "pass", () -> x.pass(hours), () -> m.pass(hours));
            case 4 -> same(run, "rooms", () -> x.rooms(hall, count), () -> m.rooms(hall, count));
            default -> same(run, "fetch", () -> x.fetch(who), () -> m.fetch(who));
        }
    }

    private void feed(int run) {
        int meals = upTo(1) == 0 ? near(1, 99) : near(1, 9);
        int hours = upTo(1) == 0 ? near(0, 99) : near(0, 3);
        switch (upTo(1)) {
            case 0 -> same(run, "lot", () -> x.lot(meals, hours), () -> m.lot(meals, hours));
            default -> same(run, "give", () -> x.give(meals), () -> m.give(meals));
        }
    }

    /** All names of the digits 1 and 2. */
    private static List<Integer> names() {
        List<Integer> names = new ArrayList<>(List.of(1, 2));
        for (int i = 0; names.get(i) < 10000; i++) {
            names.add(names.get(i) * 10 + 1);
            names.add(names.get(i) * 10 + 2);
        }
        return names;
    }

    private void everyPairOfNames() {
        List<Integer> names = names();
        check.due("names of the digits 1 and 2", 62, () -> names.size());
        for (int one : names) {
            Twelvehundred asked = new Twelvehundred();
            Model wanted = new Model();
            for (int other : names) {
                check.due(one + " and " + other, wanted.areAlike(one, other), () -> asked.areAlike(one, other));
            }
        }
    }

    private int anyName() {
        int name = 0;
        int digits = upTo(30) == 0 ? 6 : 1 + upTo(4);
        for (int i = 0; i < digits; i++) {
            name = name * 10 + (upTo(40) == 0 ? 0 : 1 + upTo(2));
        }
        return upTo(30) == 0 ? -name : name;
    }

    private void name(int run) {
        int one = anyName();
        int other = anyName();
        int who = near(0, 11);
        boolean is = upTo(1) == 0;
        switch (upTo(3)) {
            case 0 -> same(run, "list " + one, () -> x.list(one), () -> m.list(one));
            case 1 -> same(run, "strike", () -> x.strike(who, is), () -> m.strike(who, is));
            case 2 -> same(run, "areAlike " + one + " " + other, () -> x.areAlike(one, other),
                () -> m.areAlike(one, other));
            default -> same(run, "knock", () -> x.knock(), () -> m.knock());
        }
    }

    private void ask(int run) {
        int who = near(0, 5);
        int hall = near(0, 2);
        int what = near(0, 5);
        int ofLot = near(0, 1);
        int ofCounty = near(0, 18);
        switch (upTo(4)) {
            case 0 -> same(run, "ofStreet", () -> x.ofStreet(who, what), () -> m.ofStreet(who, what));
            case 1 -> same(run, "ofHousehold", () -> x.ofHousehold(who, what), () -> m.ofHousehold(who, what));
            case 2 -> same(run, "ofHall", () -> x.ofHall(hall, what), () -> m.ofHall(hall, what));
            case 3 -> same(run, "ofLot", () -> x.ofLot(who, ofLot), () -> m.ofLot(who, ofLot));
            default -> same(run, "county " + ofCounty, () -> x.county(ofCounty), () -> m.county(ofCounty));
        }
    }

    private int anyPlacing() {
        int placing = 0;
        int digits = upTo(6);
        for (int i = 0; i < digits; i++) {
            placing = placing * 10 + upTo(upTo(20) == 0 ? 9 : 3);
        }
        return upTo(40) == 0 ? -placing : placing;
    }

    private void guess(int run) {
        int set = near(0, 63);
        int placing = anyPlacing();
        int meals = near(1, 99);
        int hours = near(0, 99);
        switch (upTo(3)) {
            case 0 -> same(run, "can " + set, () -> x.can(set), () -> m.can(set));
            case 1 -> same(run, "would", () -> x.would(meals, hours), () -> m.would(meals, hours));
            case 2 -> same(run, "isStable " + placing, () -> x.isStable(placing), () -> m.isStable(placing));
            default -> guessAlmost(run);
        }
    }

    /** The stable placing, or one that is a digit away from it. */
    private void guessAlmost(int run) {
        StringBuilder digits = new StringBuilder("0");
        for (char sign : m.signs().replaceAll("[hx]", "").toCharArray()) {
            digits.append(upTo(8) == 0 ? upTo(4) : sign == '-' ? 0 : sign - '0' + 1);
        }
        int placing = Integer.parseInt(digits.toString());
        same(run, "isStable " + placing, () -> x.isStable(placing), () -> m.isStable(placing));
    }

    private void whole(int run) {
        switch (upTo(5)) {
            case 0 -> same(run, "digest", () -> x.digest(), () -> m.digest());
            case 1 -> same(run, "isSound", () -> x.isSound(), () -> m.isSound());
            case 2 -> same(run, "chosen", () -> x.chosen(), () -> m.chosen());
            default -> same(run, "signs", () -> x.signs(), () -> m.signs());
        }
    }
}
