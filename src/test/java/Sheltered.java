/** Counties that several tests begin with. */
final class Sheltered {
    /** How many calls make a full county. */
    static final int CALLS_OF_FULL = 45;

    private Sheltered() { }

    /** Streets at mile 0, as high as told. */
    static Twelvehundred streets(int... heights) {
        Twelvehundred x = new Twelvehundred();
        for (int height : heights) {
            x.street(height, 0);
        }
        return x;
    }

    /** A high street at mile 0 with so many households of one, none frail, all at home. */
    static Twelvehundred atHome(int households) {
        Twelvehundred x = streets(90);
        for (int i = 0; i < households; i++) {
            x.household(0, 1, false);
        }
        return x;
    }

    /** The same, all fetched, and a new hour. */
    static Twelvehundred withFetched(int households) {
        Twelvehundred x = atHome(households);
        for (int i = 0; i < households; i++) {
            x.fetch(i);
            x.pass(1);
        }
        return x;
    }

    /** A county in that hour, in which nothing has happened. */
    static Twelvehundred inHour(int hour) {
        Twelvehundred x = new Twelvehundred();
        for (int left = hour; left > 0; left -= 48) {
            x.pass(Math.min(left, 48));
        }
        return x;
    }

    /** As many as there may be of everything, in hour 3: one cut off, two fetched, one bus of two on its way. */
    static Twelvehundred full() {
        Twelvehundred x = streets(99, 30, 60, 12, 99, 99);
        x.hall(1, 0);
        x.hall(0, 40);
        x.hall(4, 99);
        int[] homes = {0, 0, 1, 2, 3, 5};
        for (int home : homes) {
            x.household(home, 1 + home, home == 1);
        }
        for (int lot = 0; lot < 10; lot++) {
            x.lot(5 + lot, lot);
        }
        for (int listed = 0; listed < 12; listed++) {
            x.list(111 * (1 + listed % 9));
        }
        x.strike(4, true);
        x.knock();
        x.give(7);
        x.fetch(1);
        x.river(11, 1);
        x.pass(3);
        x.buses(2);
        x.fetch(0);
        return x;
    }
}
