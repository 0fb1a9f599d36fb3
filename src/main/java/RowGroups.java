/** Six things in a row, and groups that must stand together: which orders are left. */
public final class RowGroups {
    public static final int BAD_ARG = -1;
    public static final int FULL = -2;
    public static final int NONE = -4;

    private static final int THINGS = 6;
    private static final int SETS = 64;
    private static final int ORDERS = 720;
    private static final int MOST_DEMANDS = 8;
    private static final int BITS_A_PLACE = 3;
    private static final int THING_MASK = 7;

    // Every order, packed with place 0 in the lowest bits, and sorted as in a dictionary,
    // so that the first and the last good order are the outermost good entries.
    private final int[] orders = new int[ORDERS];
    private final boolean[] good = new boolean[ORDERS];
    private final int[] demanded = new int[MOST_DEMANDS];
    private int demandCount = 0;

    public RowGroups() {
        for (int rank = 0; rank < ORDERS; rank++) {
            orders[rank] = orderOfRank(rank);
            good[rank] = true;
        }
    }

    public int demand(int set) {
        if (!isSet(set)) {
            return BAD_ARG;
        }
        if (demandCount >= MOST_DEMANDS) {
            return FULL;
        }
        if (goodOrdersWith(set) == 0) {
            return NONE;
        }
        demanded[demandCount] = set;
        demandCount++;
        findGoodOrders();
        return demandCount;
    }

    public int undo() {
        if (demandCount <= 0) {
            return NONE;
        }
        demandCount--;
        findGoodOrders();
        return demanded[demandCount];
    }

    public int clear() {
        int before = demandCount;
        demandCount = 0;
        findGoodOrders();
        return before;
    }

    public int demands() {
        return demandCount;
    }

    public int count() {
        // The empty set stands together in every order.
        return goodOrdersWith(0);
    }

    public int first(int i) {
        if (!isThingOrPlace(i)) {
            return BAD_ARG;
        }
        for (int rank = 0; rank < ORDERS; rank++) {
            if (good[rank]) {
                return thingAt(orders[rank], i);
            }
        }
        // Not reached: demand keeps at least one good order.
        return NONE;
    }

    public int last(int i) {
        if (!isThingOrPlace(i)) {
            return BAD_ARG;
        }
        for (int rank = ORDERS - 1; rank >= 0; rank--) {
            if (good[rank]) {
                return thingAt(orders[rank], i);
            }
        }
        // Not reached: demand keeps at least one good order.
        return NONE;
    }

    public boolean allowed(int set) {
        return isSet(set) && goodOrdersWith(set) > 0;
    }

    public boolean together(int set) {
        return isSet(set) && inAllGoodOrders(set);
    }

    public int countWith(int set) {
        if (!isSet(set)) {
            return BAD_ARG;
        }
        return goodOrdersWith(set);
    }

    public int places(int t) {
        if (!isThingOrPlace(t)) {
            return BAD_ARG;
        }
        int found = 0;
        for (int rank = 0; rank < ORDERS; rank++) {
            if (good[rank]) {
                found |= placesOf(orders[rank], 1 << t);
            }
        }
        return found;
    }

    public int neighbours(int t) {
        if (!isThingOrPlace(t)) {
            return BAD_ARG;
        }
        int found = 0;
        for (int rank = 0; rank < ORDERS; rank++) {
            if (good[rank]) {
                found |= nextTo(orders[rank], t);
            }
        }
        return found;
    }

    public int groups() {
        int found = 0;
        for (int set = 0; set < SETS; set++) {
            if (inAllGoodOrders(set)) {
                found++;
            }
        }
        return found;
    }

    private static boolean isSet(int set) {
        return set >= 0 && set < SETS;
    }

    private static boolean isThingOrPlace(int number) {
        return number >= 0 && number < THINGS;
    }

    private static int orderOfRank(int rank) {
        int order = 0;
        int unused = SETS - 1;
        int rest = rank;
        // How many orders share the things chosen so far: 120, 24, 6, 2, 1, 1, so it can divide.
        int block = ORDERS;
        for (int place = 0; place < THINGS; place++) {
            block /= THINGS - place;
            int thing = memberOf(unused, rest / block);
            rest %= block;
            unused &= ~(1 << thing);
            order |= thing << (BITS_A_PLACE * place);
        }
        return order;
    }

    /** The thing of the set that has as many smaller ones in the set as told. */
    private static int memberOf(int set, int smaller) {
        int left = smaller;
        for (int thing = 0; thing < THINGS; thing++) {
            if ((set >> thing & 1) == 1) {
                if (left == 0) {
                    return thing;
                }
                left--;
            }
        }
        // Not reached: the set has more things than that.
        return 0;
    }

    private static int thingAt(int order, int place) {
        return order >> (BITS_A_PLACE * place) & THING_MASK;
    }

    private static int placesOf(int order, int set) {
        int found = 0;
        for (int place = 0; place < THINGS; place++) {
            int thing = thingAt(order, place);
            if ((set >> thing & 1) == 1) {
                found |= 1 << place;
            }
        }
        return found;
    }

    private static int nextTo(int order, int t) {
        int found = 0;
        for (int place = 1; place < THINGS; place++) {
            int left = thingAt(order, place - 1);
            int right = thingAt(order, place);
            if (left == t) {
                found |= 1 << right;
            }
            if (right == t) {
                found |= 1 << left;
            }
        }
        return found;
    }

    private static boolean standsTogether(int order, int set) {
        int taken = placesOf(order, set);
        int lowest = taken & -taken;
        // Adding the lowest bit carries through one unbroken run and leaves none of it;
        // a bit that stays belongs to a second run.
        return (taken + lowest & taken) == 0;
    }

    private int goodOrdersWith(int set) {
        int found = 0;
        for (int rank = 0; rank < ORDERS; rank++) {
            if (good[rank] && standsTogether(orders[rank], set)) {
                found++;
            }
        }
        return found;
    }

    private boolean inAllGoodOrders(int set) {
        for (int rank = 0; rank < ORDERS; rank++) {
            if (good[rank] && !standsTogether(orders[rank], set)) {
                return false;
            }
        }
        return true;
    }

    private void findGoodOrders() {
        for (int rank = 0; rank < ORDERS; rank++) {
            good[rank] = meetsAllDemands(orders[rank]);
        }
    }

    private boolean meetsAllDemands(int order) {
        for (int i = 0; i < demandCount; i++) {
            if (!standsTogether(order, demanded[i])) {
                return false;
            }
        }
        return true;
    }
}
