import java.util.ArrayList;

/** A county that shelters its people. ../shared/DOC.md says what each call promises. */
public final class Twelvehundred {
    private static final int NONE = -1;

    private static final int MOST_STREETS = 6;
    private static final int MOST_HALLS = 3;
    private static final int MOST_HOUSEHOLDS = 6;
    private static final int MOST_LOTS = 10;
    private static final int MOST_LISTED = 12;
    private static final int MOST_ROOMS = 4;
    private static final int MOST_PEOPLE = 9;
    private static final int MOST_BUSES = 3;
    private static final int MOST_RISE = 9;
    private static final int MOST_HOURS_AT_ONCE = 48;
    private static final int LAST_HOUR = 500;
    private static final int MOST_DIGITS = 5;
    private static final int LARGEST_NAME = 99999;
    private static final int TOP = 99;
    private static final int FIRST_LEVEL = 10;
    private static final int NEVER = 999;

    private static final int AT_HOME = 0;
    private static final int FETCHED = 1;
    private static final int CUT_OFF = 2;

    private static final int WHATS_OF_COUNTY = 19;
    private static final int WHATS_OF_STREET = 5;
    private static final int WHATS_OF_HOUSEHOLD = 6;
    private static final int WHATS_OF_HALL = 4;
    private static final int WHATS_OF_LOT = 2;
    private static final long DIGEST_START = 8609L;
    private static final long DIGEST_FACTOR = 31L;

    private final River river;
    private final ArrayList<Street> streets;
    private final ArrayList<Hall> halls;
    private final ArrayList<Household> households;
    private final Rescue rescue;
    private final Placing placing;
    private final Asking asking;
    private final Placing trial;
    private final Larder larder;
    private final Bulletin bulletin;

    public Twelvehundred() {
        River newRiver = new River();
        ArrayList<Hall> noHalls = new ArrayList<>();
        ArrayList<Household> noHouseholds = new ArrayList<>();
        Placing emptyPlacing = new Placing(noHouseholds, noHalls);
        river = newRiver;
        streets = new ArrayList<>();
        halls = noHalls;
        households = noHouseholds;
        rescue = new Rescue(newRiver, noHouseholds);
        placing = emptyPlacing;
        asking = new Asking(noHouseholds, noHalls, emptyPlacing);
        trial = new Placing(noHouseholds, noHalls);
        larder = new Larder();
        bulletin = new Bulletin();
    }

    // ---- the county

    public int street(int height, int place) throws IllegalArgumentException, IllegalStateException {
        if (!isWithin(height, 0, TOP) || !isWithin(place, 0, TOP)) {
            throw new IllegalArgumentException("height or place is not 0 to 99");
        }
        int number = streets.size();
        if (number >= MOST_STREETS) {
            throw new IllegalStateException("there are 6 streets");
        }
        streets.add(new Street(number, height, place));
        return number;
    }

    public int hall(int rooms, int place) throws IllegalArgumentException, IllegalStateException {
        if (!isWithin(rooms, 0, MOST_ROOMS) || !isWithin(place, 0, TOP)) {
            throw new IllegalArgumentException("rooms is not 0 to 4, or place not 0 to 99");
        }
        int number = halls.size();
        if (number >= MOST_HALLS) {
            throw new IllegalStateException("there are 3 halls");
        }
        halls.add(new Hall(number, rooms, place));
        asking.settle();
        return number;
    }

    public int rooms(int hall, int rooms) throws IndexOutOfBoundsException, IllegalArgumentException {
        if (hall < 0 || hall >= halls.size()) {
            throw new IndexOutOfBoundsException("no such hall");
        }
        if (!isWithin(rooms, 0, MOST_ROOMS)) {
            throw new IllegalArgumentException("rooms is not 0 to 4");
        }
        Hall changed = halls.get(hall);
        int before = changed.roomCount;
        changed.roomCount = rooms;
        asking.settle();
        return before;
    }

    public int household(int street, int people, boolean isFrail)
            throws IndexOutOfBoundsException, IllegalArgumentException, IllegalStateException {
        if (street < 0 || street >= streets.size()) {
            throw new IndexOutOfBoundsException("no such street");
        }
        if (!isWithin(people, 1, MOST_PEOPLE)) {
            throw new IllegalArgumentException("people is not 1 to 9");
        }
        int number = households.size();
        if (number >= MOST_HOUSEHOLDS) {
            throw new IllegalStateException("there are 6 households");
        }
        Household newcomer = new Household(number, streets.get(street), people, isFrail);
        if (river.floods(newcomer.home)) {
            newcomer.state = CUT_OFF;
        }
        households.add(newcomer);
        return number;
    }

    public int river(int level, int rise) throws IllegalArgumentException {
        if (!isWithin(level, 0, TOP) || !isWithin(rise, -MOST_RISE, MOST_RISE)) {
            throw new IllegalArgumentException("level is not 0 to 99, or rise not -9 to 9");
        }
        int before = river.level;
        river.level = level;
        river.rise = rise;
        return before;
    }

    public int buses(int buses) throws IllegalArgumentException {
        if (!isWithin(buses, 0, MOST_BUSES)) {
            throw new IllegalArgumentException("buses is not 0 to 3");
        }
        int before = rescue.busCount;
        rescue.busCount = buses;
        return before;
    }

    public int fetch(int household) throws IndexOutOfBoundsException, IllegalStateException {
        if (household < 0 || household >= households.size()) {
            throw new IndexOutOfBoundsException("no such household");
        }
        Household fetched = households.get(household);
        if (fetched.state != AT_HOME || rescue.fetchedThisHour >= rescue.busCount) {
            throw new IllegalStateException("not at home, or no bus is left in this hour");
        }
        fetched.state = FETCHED;
        rescue.fetchedThisHour++;
        asking.settle();
        return rescue.fetchedThisHour;
    }

    public int pass(int hours) throws IllegalArgumentException, IllegalStateException {
        if (!isWithin(hours, 1, MOST_HOURS_AT_ONCE)) {
            throw new IllegalArgumentException("hours is not 1 to 48");
        }
        if (river.hour + hours > LAST_HOUR) {
            throw new IllegalStateException("the hour would be above 500");
        }
        int cutOff = 0;
        for (int i = 0; i < hours; i++) {
            river.flow();
            rescue.fetchedThisHour = 0;
            cutOff += rescue.cutOffFlooded();
            larder.spoilBefore(river.hour);
        }
        return cutOff;
    }

    // ---- meals and lists

    public int lot(int meals, int hours) throws IllegalArgumentException, IllegalStateException {
        if (!isWithin(meals, 1, TOP) || !isWithin(hours, 0, TOP)) {
            throw new IllegalArgumentException("meals is not 1 to 99, or hours not 0 to 99");
        }
        int number = larder.lots.size();
        if (number >= MOST_LOTS) {
            throw new IllegalStateException("there are 10 lots");
        }
        larder.lots.add(new Lot(meals, river.hour + hours));
        return number;
    }

    public int give(int meals) throws IllegalArgumentException {
        if (!isWithin(meals, 1, TOP)) {
            throw new IllegalArgumentException("meals is not 1 to 99");
        }
        return larder.handOut(meals);
    }

    public int list(int name) throws IllegalArgumentException, IllegalStateException {
        if (!Bulletin.isName(name)) {
            throw new IllegalArgumentException("no name");
        }
        int number = bulletin.listed.size();
        if (number >= MOST_LISTED) {
            throw new IllegalStateException("there are 12 listed");
        }
        bulletin.listed.add(new Listed(name));
        return number;
    }

    public int strike(int listed, boolean is) throws IndexOutOfBoundsException {
        if (listed < 0 || listed >= bulletin.listed.size()) {
            throw new IndexOutOfBoundsException("no such one is listed");
        }
        bulletin.listed.get(listed).isStruck = is;
        return bulletin.persons();
    }

    public int knock() {
        bulletin.refused++;
        return bulletin.refused;
    }

    // ---- what is asked

    public int ofStreet(int street, int what) throws IndexOutOfBoundsException, IllegalArgumentException {
        if (street < 0 || street >= streets.size()) {
            throw new IndexOutOfBoundsException("no such street");
        }
        Street asked = streets.get(street);
        switch (what) {
            case 0:
                return asked.height;
            case 1:
                return asked.place;
            case 2:
                return oneIf(river.floods(asked));
            case 3:
                return river.limitOf(asked);
            case 4:
                return rescue.atHomeIn(asked);
            default:
                throw new IllegalArgumentException("what is not 0 to 4");
        }
    }

    public int ofHousehold(int household, int what) throws IndexOutOfBoundsException, IllegalArgumentException {
        if (household < 0 || household >= households.size()) {
            throw new IndexOutOfBoundsException("no such household");
        }
        Household asked = households.get(household);
        switch (what) {
            case 0:
                return asked.home.number;
            case 1:
                return asked.people;
            case 2:
                return oneIf(asked.isFrail);
            case 3:
                return asked.state;
            case 4:
                Hall taken = placing.hallOf(asked);
                return taken == null ? NONE : taken.number;
            case 5:
                return oneIf(hasMember(rescue.choice(), household));
            default:
                throw new IllegalArgumentException("what is not 0 to 5");
        }
    }

    public int ofHall(int hall, int what) throws IndexOutOfBoundsException, IllegalArgumentException {
        if (hall < 0 || hall >= halls.size()) {
            throw new IndexOutOfBoundsException("no such hall");
        }
        Hall asked = halls.get(hall);
        switch (what) {
            case 0:
                return asked.roomCount;
            case 1:
                return asked.place;
            case 2:
                return placing.guestsOf(asked);
            case 3:
                return rescue.peopleOf(placing.guestsOf(asked));
            default:
                throw new IllegalArgumentException("what is not 0 to 3");
        }
    }

    public int ofLot(int lot, int what) throws IndexOutOfBoundsException, IllegalArgumentException {
        if (lot < 0 || lot >= larder.lots.size()) {
            throw new IndexOutOfBoundsException("no such lot");
        }
        Lot asked = larder.lots.get(lot);
        switch (what) {
            case 0:
                return asked.left;
            case 1:
                return asked.lastHour;
            default:
                throw new IllegalArgumentException("what is not 0 or 1");
        }
    }

    public int county(int what) throws IllegalArgumentException {
        switch (what) {
            case 0:
                return streets.size();
            case 1:
                return halls.size();
            case 2:
                return households.size();
            case 3:
                return rescue.countOf(AT_HOME);
            case 4:
                return rescue.countOf(FETCHED);
            case 5:
                return rescue.countOf(CUT_OFF);
            case 6:
                return river.hour;
            case 7:
                return river.level;
            case 8:
                return river.rise;
            case 9:
                return rescue.busCount;
            case 10:
                return rescue.fetchedThisHour;
            case 11:
                return asking.askedCount;
            case 12:
                return larder.lastingAt(river.hour);
            case 13:
                return larder.given;
            case 14:
                return larder.spoilt;
            case 15:
                return larder.missing;
            case 16:
                return bulletin.listed.size();
            case 17:
                return bulletin.persons();
            case 18:
                return bulletin.refused;
            default:
                throw new IllegalArgumentException("what is not 0 to 18");
        }
    }

    public String signs() {
        StringBuilder row = new StringBuilder();
        for (int i = 0; i < households.size(); i++) {
            row.append(signOf(households.get(i)));
        }
        return row.toString();
    }

    // ---- what would be

    public boolean can(int set) throws IllegalArgumentException {
        if (set < 0 || set >= 1 << households.size()) {
            throw new IllegalArgumentException("no set of households that there are");
        }
        return rescue.canReach(set);
    }

    public int chosen() {
        return rescue.peopleOf(rescue.choice());
    }

    public boolean isStable(int placing) {
        return trial.read(placing) && trial.isWithinRooms() && !trial.isContested();
    }

    public int would(int meals, int hours) throws IllegalArgumentException {
        if (!isWithin(meals, 1, TOP) || !isWithin(hours, 0, TOP)) {
            throw new IllegalArgumentException("meals is not 1 to 99, or hours not 0 to 99");
        }
        return Math.min(meals, larder.lastingAt(river.hour + hours));
    }

    public boolean areAlike(int one, int other) throws IllegalArgumentException {
        if (!Bulletin.isName(one) || !Bulletin.isName(other)) {
            throw new IllegalArgumentException("one or other is no name");
        }
        return Bulletin.isNear(one, other);
    }

    public boolean isSound() {
        if (!placing.isWithinRooms() || placing.isContested()) {
            return false;
        }
        trial.clear();
        return !Placing.isBeaten(placing, trial, 0)
            && !rescue.canReachMoreThan(rescue.peopleOf(rescue.choice()))
            && larder.isBalanced()
            && bulletin.persons() <= bulletin.listed.size();
    }

    public long digest() {
        long d = DIGEST_START;
        for (int what = 0; what < WHATS_OF_COUNTY; what++) {
            d = d * DIGEST_FACTOR + county(what);
        }
        for (int i = 0; i < streets.size(); i++) {
            for (int what = 0; what < WHATS_OF_STREET; what++) {
                d = d * DIGEST_FACTOR + ofStreet(i, what);
            }
        }
        for (int i = 0; i < households.size(); i++) {
            for (int what = 0; what < WHATS_OF_HOUSEHOLD; what++) {
                d = d * DIGEST_FACTOR + ofHousehold(i, what);
            }
        }
        for (int i = 0; i < halls.size(); i++) {
            for (int what = 0; what < WHATS_OF_HALL; what++) {
                d = d * DIGEST_FACTOR + ofHall(i, what);
            }
        }
        for (int i = 0; i < larder.lots.size(); i++) {
            for (int what = 0; what < WHATS_OF_LOT; what++) {
                d = d * DIGEST_FACTOR + ofLot(i, what);
            }
        }
        d = d * DIGEST_FACTOR + chosen();
        d = d * DIGEST_FACTOR + would(20, 3);
        d = d * DIGEST_FACTOR + signs().length();
        return d * DIGEST_FACTOR + oneIf(isSound());
    }

    private char signOf(Household one) {
        if (one.state == AT_HOME) {
            return 'h';
        }
        if (one.state == CUT_OFF) {
            return 'x';
        }
        Hall taken = placing.hallOf(one);
        return taken == null ? '-' : (char) ('0' + taken.number);
    }

    private static boolean isWithin(int value, int least, int most) {
        return value >= least && value <= most;
    }

    private static int oneIf(boolean is) {
        return is ? 1 : 0;
    }

    private static boolean hasMember(int set, int number) {
        return (set >> number & 1) == 1;
    }

    private static final class River {
        private int level = FIRST_LEVEL;
        private int rise = 0;
        private int hour = 0;

        void flow() {
            level = Math.max(0, Math.min(TOP, level + rise));
            hour++;
        }

        boolean floods(Street street) {
            return level >= street.height;
        }

        int limitOf(Street street) {
            if (floods(street)) {
                return 0;
            }
            if (rise <= 0) {
                return NEVER;
            }
            // Rounded up: an hour that is only partly needed must go by whole.
            return (street.height - level + rise - 1) / rise;
        }
    }

    private static final class Street {
        private final int number;
        private final int height;
        private final int place;

        Street(int number, int height, int place) {
            this.number = number;
            this.height = height;
            this.place = place;
        }
    }

    private static final class Hall {
        private final int number;
        private final int place;
        private int roomCount;

        Hall(int number, int roomCount, int place) {
            this.number = number;
            this.roomCount = roomCount;
            this.place = place;
        }
    }

    private static final class Household {
        private final int number;
        private final Street home;
        private final int people;
        private final boolean isFrail;
        private int state = AT_HOME;

        Household(int number, Street home, int people, boolean isFrail) {
            this.number = number;
            this.home = home;
            this.people = people;
            this.isFrail = isFrail;
        }

        /** Null is no hall. */
        boolean wouldRather(Hall one, Hall other) {
            if (one == null || other == null) {
                return one != null;
            }
            int way = Math.abs(one.place - home.place);
            int otherWay = Math.abs(other.place - home.place);
            return way != otherWay ? way < otherWay : one.number < other.number;
        }

        /** What every hall thinks, as all halls judge alike. */
        boolean goesBefore(Household other) {
            if (isFrail != other.isFrail) {
                return isFrail;
            }
            return people != other.people ? people > other.people : number < other.number;
        }
    }

    /** Who is where, and whom the buses reach ahead of the water. */
    private static final class Rescue {
        private final River river;
        private final ArrayList<Household> households;
        private int busCount = 1;
        private int fetchedThisHour = 0;

        Rescue(River river, ArrayList<Household> households) {
            this.river = river;
            this.households = households;
        }

        int countOf(int state) {
            int count = 0;
            for (int i = 0; i < households.size(); i++) {
                count += oneIf(households.get(i).state == state);
            }
            return count;
        }

        int atHomeIn(Street street) {
            int count = 0;
            for (int i = 0; i < households.size(); i++) {
                Household one = households.get(i);
                count += oneIf(one.state == AT_HOME && one.home == street);
            }
            return count;
        }

        int cutOffFlooded() {
            int count = 0;
            for (int i = 0; i < households.size(); i++) {
                Household one = households.get(i);
                if (one.state == AT_HOME && river.floods(one.home)) {
                    one.state = CUT_OFF;
                    count++;
                }
            }
            return count;
        }

        int peopleOf(int set) {
            int people = 0;
            for (int i = 0; i < households.size(); i++) {
                if (hasMember(set, i)) {
                    people += households.get(i).people;
                }
            }
            return people;
        }

        boolean canReach(int set) {
            for (int i = 0; i < households.size(); i++) {
                if (hasMember(set, i) && !canReachAsLateAs(households.get(i), set)) {
                    return false;
                }
            }
            return true;
        }

        // Only hours that are someone's limit need a look: between them nobody more is due, while the buses
        // go on. Limit 0 needs no word of its own: no bus has come by then, and one is due at least.
        private boolean canReachAsLateAs(Household last, int set) {
            if (last.state != AT_HOME) {
                return false;
            }
            int limit = river.limitOf(last.home);
            int due = 0;
            for (int i = 0; i < households.size(); i++) {
                due += oneIf(hasMember(set, i) && river.limitOf(households.get(i).home) <= limit);
            }
            return due <= busCount * limit;
        }

        int choice() {
            int set = 0;
            for (int people = MOST_PEOPLE; people >= 1; people--) {
                for (int i = 0; i < households.size(); i++) {
                    int larger = set | 1 << i;
                    if (households.get(i).people == people && canReach(larger)) {
                        set = larger;
                    }
                }
            }
            return set;
        }

        boolean canReachMoreThan(int people) {
            for (int set = 0; set < 1 << households.size(); set++) {
                if (peopleOf(set) > people && canReach(set)) {
                    return true;
                }
            }
            return false;
        }
    }

    /** A hall or none for each household that is fetched. */
    private static final class Placing {
        private final ArrayList<Household> households;
        private final ArrayList<Hall> halls;
        private final Hall[] taken = new Hall[MOST_HOUSEHOLDS];

        Placing(ArrayList<Household> households, ArrayList<Hall> halls) {
            this.households = households;
            this.halls = halls;
        }

        void clear() {
            for (int i = 0; i < taken.length; i++) {
                taken[i] = null;
            }
        }

        Hall hallOf(Household one) {
            return one.number >= 0 && one.number < taken.length ? taken[one.number] : null;
        }

        void put(Household one, Hall hall) {
            if (one.number >= 0 && one.number < taken.length) {
                taken[one.number] = hall;
            }
        }

        /** Takes a placing as isStable() is told it, if it has the digits of one. */
        boolean read(int digits) {
            clear();
            int rest = digits;
            for (int i = households.size() - 1; i >= 0; i--) {
                Household one = households.get(i);
                if (one.state == FETCHED) {
                    int digit = rest % 10;
                    if (digit < 0 || digit > halls.size()) {
                        return false;
                    }
                    put(one, digit == 0 ? null : halls.get(digit - 1));
                    rest /= 10;
                }
            }
            return rest == 0;
        }

        int guestsOf(Hall hall) {
            int set = 0;
            for (int i = 0; i < taken.length; i++) {
                if (taken[i] == hall) {
                    set |= 1 << i;
                }
            }
            return set;
        }

        boolean hasRoom(Hall hall) {
            return Integer.bitCount(guestsOf(hall)) < hall.roomCount;
        }

        /** The guest whom the hall would least have; null, if it has none. */
        Household leastOf(Hall hall) {
            Household least = null;
            for (int i = 0; i < households.size(); i++) {
                Household one = households.get(i);
                if (hallOf(one) == hall && (least == null || least.goesBefore(one))) {
                    least = one;
                }
            }
            return least;
        }

        boolean isWithinRooms() {
            for (int i = 0; i < halls.size(); i++) {
                Hall hall = halls.get(i);
                if (Integer.bitCount(guestsOf(hall)) > hall.roomCount) {
                    return false;
                }
            }
            return true;
        }

        /** Whether a household and a hall would rather have each other than what they have. */
        boolean isContested() {
            for (int i = 0; i < households.size(); i++) {
                if (households.get(i).state == FETCHED && (hasEnvyUpTo(i) || wantsEmptyRoom(households.get(i)))) {
                    return true;
                }
            }
            return false;
        }

        private boolean wantsEmptyRoom(Household one) {
            for (int i = 0; i < halls.size(); i++) {
                Hall hall = halls.get(i);
                if (one.wouldRather(hall, hallOf(one)) && hasRoom(hall)) {
                    return true;
                }
            }
            return false;
        }

        /** Whether the household and one with a smaller number envy each other's room with good reason. */
        private boolean hasEnvyUpTo(int number) {
            if (number < 0 || number >= households.size()) {
                return false;
            }
            Household one = households.get(number);
            for (int i = 0; i < number; i++) {
                Household other = households.get(i);
                if (other.state == FETCHED && (couldOust(one, other) || couldOust(other, one))) {
                    return true;
                }
            }
            return false;
        }

        private boolean couldOust(Household one, Household other) {
            return one.wouldRather(hallOf(other), hallOf(one)) && one.goesBefore(other);
        }

        private boolean isBetterForAny(Placing other) {
            for (int i = 0; i < households.size(); i++) {
                Household one = households.get(i);
                if (one.wouldRather(hallOf(one), other.hallOf(one))) {
                    return true;
                }
            }
            return false;
        }

        /**
         * Whether a stable placing gives any household a hall that it would rather have than its own in
         * the placing that is looked at. The trial is empty from the given household on, and is so again when the
         * answer is no. What rooms or envy rule out early is not filled further, as nobody placed later could
         * make up for it.
         */
        private static boolean isBeaten(Placing looked, Placing trial, int from) {
            if (from < 0 || from >= trial.households.size()) {
                return trial.isBetterForAny(looked) && !trial.isContested();
            }
            Household one = trial.households.get(from);
            if (one.state != FETCHED) {
                return isBeaten(looked, trial, from + 1);
            }
            for (int i = NONE; i < trial.halls.size(); i++) {
                Hall hall = i < 0 ? null : trial.halls.get(i);
                if (hall == null || trial.hasRoom(hall)) {
                    trial.put(one, hall);
                    if (!trial.hasEnvyUpTo(from) && isBeaten(looked, trial, from + 1)) {
                        return true;
                    }
                    trial.put(one, null);
                }
            }
            return false;
        }
    }

    /** How the households that are fetched come by their halls. */
    private static final class Asking {
        private final ArrayList<Household> households;
        private final ArrayList<Hall> halls;
        private final Placing placing;
        private final int[] askedBy = new int[MOST_HOUSEHOLDS];
        private int askedCount = 0;

        Asking(ArrayList<Household> households, ArrayList<Hall> halls, Placing placing) {
            this.households = households;
            this.halls = halls;
            this.placing = placing;
        }

        void settle() {
            placing.clear();
            for (int i = 0; i < askedBy.length; i++) {
                askedBy[i] = 0;
            }
            askedCount = 0;
            for (int turn = 0; turn < MOST_HOUSEHOLDS * MOST_HALLS; turn++) {
                askNext();
            }
        }

        private void askNext() {
            for (int i = 0; i < households.size(); i++) {
                Household one = households.get(i);
                if (one.state == FETCHED && placing.hallOf(one) == null) {
                    Hall hall = favouriteNotAsked(one);
                    if (hall != null) {
                        ask(one, hall);
                        return;
                    }
                }
            }
        }

        private Hall favouriteNotAsked(Household one) {
            Hall favourite = null;
            for (int i = 0; i < halls.size(); i++) {
                Hall hall = halls.get(i);
                if (!hasAsked(one, hall) && one.wouldRather(hall, favourite)) {
                    favourite = hall;
                }
            }
            return favourite;
        }

        private boolean hasAsked(Household one, Hall hall) {
            return one.number >= 0 && one.number < askedBy.length && hasMember(askedBy[one.number], hall.number);
        }

        private void ask(Household one, Hall hall) {
            askedCount++;
            if (one.number >= 0 && one.number < askedBy.length) {
                askedBy[one.number] |= 1 << hall.number;
            }
            if (placing.hasRoom(hall)) {
                placing.put(one, hall);
                return;
            }
            Household least = placing.leastOf(hall);
            if (least != null && one.goesBefore(least)) {
                placing.put(least, null);
                placing.put(one, hall);
            }
        }
    }

    private static final class Lot {
        private final int came;
        private final int lastHour;
        private int left;

        Lot(int came, int lastHour) {
            this.came = came;
            this.lastHour = lastHour;
            this.left = came;
        }
    }

    private static final class Larder {
        private final ArrayList<Lot> lots = new ArrayList<>();
        private int given = 0;
        private int spoilt = 0;
        private int missing = 0;

        int handOut(int wanted) {
            int open = wanted;
            // Each turn empties a lot or ends the want.
            for (int turn = 0; turn < lots.size(); turn++) {
                Lot lot = nextToSpoil();
                if (lot != null) {
                    int taken = Math.min(open, lot.left);
                    lot.left -= taken;
                    open -= taken;
                }
            }
            given += wanted - open;
            missing += open;
            return wanted - open;
        }

        private Lot nextToSpoil() {
            Lot next = null;
            for (int i = 0; i < lots.size(); i++) {
                Lot lot = lots.get(i);
                if (lot.left > 0 && (next == null || lot.lastHour < next.lastHour)) {
                    next = lot;
                }
            }
            return next;
        }

        void spoilBefore(int hour) {
            for (int i = 0; i < lots.size(); i++) {
                Lot lot = lots.get(i);
                if (lot.lastHour < hour) {
                    spoilt += lot.left;
                    lot.left = 0;
                }
            }
        }

        int lastingAt(int hour) {
            int meals = 0;
            for (int i = 0; i < lots.size(); i++) {
                Lot lot = lots.get(i);
                if (lot.lastHour >= hour) {
                    meals += lot.left;
                }
            }
            return meals;
        }

        boolean isBalanced() {
            int came = 0;
            int left = 0;
            for (int i = 0; i < lots.size(); i++) {
                came += lots.get(i).came;
                left += lots.get(i).left;
            }
            return came == left + given + spoilt;
        }
    }

    private static final class Listed {
        private final int name;
        private boolean isStruck = false;
        private int group = 0;

        Listed(int name) {
            this.name = name;
        }
    }

    private static final class Bulletin {
        private final ArrayList<Listed> listed = new ArrayList<>();
        private int refused = 0;

        static boolean isName(int name) {
            if (name < 1 || name > LARGEST_NAME) {
                return false;
            }
            int rest = name;
            for (int i = 0; i < MOST_DIGITS && rest > 0; i++) {
                if (rest % 10 == 0) {
                    return false;
                }
                rest /= 10;
            }
            return true;
        }

        /** Without the digits that both end with, one digit at most may be left to change, drop or add. */
        static boolean isNear(int one, int other) {
            int rest = one;
            int otherRest = other;
            for (int i = 0; i < MOST_DIGITS && rest % 10 == otherRest % 10; i++) {
                rest /= 10;
                otherRest /= 10;
            }
            return rest / 10 == otherRest / 10 || rest / 10 == otherRest || rest == otherRest / 10;
        }

        int persons() {
            int persons = 0;
            for (int i = 0; i < listed.size(); i++) {
                listed.get(i).group = i;
                persons += oneIf(!listed.get(i).isStruck);
            }
            for (int i = 0; i < listed.size(); i++) {
                for (int j = 0; j < i; j++) {
                    Listed one = listed.get(i);
                    Listed other = listed.get(j);
                    if (one.group != other.group && areTogether(one, other)) {
                        join(one.group, other.group);
                        persons--;
                    }
                }
            }
            return persons;
        }

        private static boolean areTogether(Listed one, Listed other) {
            return !one.isStruck && !other.isStruck && isNear(one.name, other.name);
        }

        private void join(int from, int to) {
            for (int i = 0; i < listed.size(); i++) {
                if (listed.get(i).group == from) {
                    listed.get(i).group = to;
                }
            }
        }
    }
}
