/** Counties that several tests begin with. */
final class Sheltered {
    private Sheltered() { }

    /** A high street at mile 0 with so many households of one, none frail, all at home. */
    static Twelvehundred atHome(int households) {
        Twelvehundred x = new Twelvehundred();
        x.street(90, 0);
        for (int i = 0; i < households; i++) {
            x.household(0, 1, false);
        }
        return x;
    }

    /** The same, all fetched, and a new hour. */
    static Twelvehundred withFetched(int households) {
        Twelvehundred x = atHome(households);
        for (int i = 0; i < households; i++) {
            x.fetch(i);
            x.pass(1);
        }
        return x;
    }
}
