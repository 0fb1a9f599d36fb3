import java.util.ArrayDeque;
import java.util.ArrayList;
import java.util.Arrays;
import java.util.BitSet;
import java.util.Deque;
import java.util.LinkedHashMap;
import java.util.List;
import java.util.Map;

/**
 * Every collection of good orders that demands can lead to, with every question of promises 5 to 14
 * asked there with every argument in range. The collections are found here by the words of the
 * document; for each of them a new object is given demands that lead to it.
 */
public final class RowGroupsEveryState {
    private static final List<int[]> ORDERS = new ArrayList<>();
    /** For each set the orders, by their number in ORDERS, in which its things stand together. */
    private static final BitSet[] MEETING = new BitSet[64];

    private static int wrong = 0;

    private static void fillOrders(List<Integer> begun) {
        if (begun.size() == 6) {
            ORDERS.add(begun.stream().mapToInt(Integer::intValue).toArray());
            return;
        }
        for (int thing = 0; thing < 6; thing++) {
            if (!begun.contains(thing)) {
                List<Integer> longer = new ArrayList<>(begun);
                longer.add(thing);
                fillOrders(longer);
            }
        }
    }

    /** Going along the row, one comes upon the set's things at most once from outside. */
    private static boolean meets(int[] order, int set) {
        int begins = 0;
        boolean inside = false;
        for (int thing : order) {
            boolean member = (set & 1 << thing) != 0;
            if (member && !inside) {
                begins++;
            }
            inside = member;
        }
        return begins <= 1;
    }

    private static void fillMeeting() {
        for (int set = 0; set < 64; set++) {
            MEETING[set] = new BitSet();
            for (int i = 0; i < ORDERS.size(); i++) {
                MEETING[set].set(i, meets(ORDERS.get(i), set));
            }
        }
    }

    private static BitSet narrowed(BitSet good, int set) {
        BitSet left = (BitSet) good.clone();
        left.and(MEETING[set]);
        return left;
    }

    /** Each collection of good orders, with a shortest list of demands that leads to it. */
    private static Map<BitSet, int[]> statesWithDemands() {
        Map<BitSet, int[]> found = new LinkedHashMap<>();
        Deque<BitSet> open = new ArrayDeque<>();
        BitSet all = new BitSet();
        all.set(0, ORDERS.size());
        found.put(all, new int[0]);
        open.add(all);
        while (!open.isEmpty()) {
            BitSet good = open.remove();
            int[] demands = found.get(good);
            for (int set = 0; set < 64 && demands.length < 8; set++) {
                BitSet left = narrowed(good, set);
                if (!left.isEmpty() && !found.containsKey(left)) {
                    int[] longer = Arrays.copyOf(demands, demands.length + 1);
                    longer[demands.length] = set;
                    found.put(left, longer);
                    open.add(left);
                }
            }
        }
        return found;
    }

    private static void due(int promise, int[] demands, String call, long got, long want) {
        if (got != want) {
            wrong++;
            System.out.println("promise " + promise + ", demands " + Arrays.toString(demands) + ": " + call
                + " answered " + got + ", due is " + want);
        }
    }

    private static int bit(boolean answer) {
        return answer ? 1 : 0;
    }

    private static void askAll(BitSet good, int[] demands) {
        RowGroups x = new RowGroups();
        for (int i = 0; i < demands.length; i++) {
            due(2, demands, "demand(" + demands[i] + ")", x.demand(demands[i]), i + 1);
        }
        due(5, demands, "demands()", x.demands(), demands.length);
        due(6, demands, "count()", x.count(), good.cardinality());
        askOfThings(x, good, demands);
        askOfSets(x, good, demands);
    }

    private static void askOfThings(RowGroups x, BitSet good, int[] demands) {
        int[] places = new int[6];
        int[] neighbours = new int[6];
        good.stream().forEach(number -> {
            int[] order = ORDERS.get(number);
            for (int place = 0; place < 6; place++) {
                places[order[place]] |= 1 << place;
                if (place > 0) neighbours[order[place]] |= 1 << order[place - 1];
                if (place < 5) neighbours[order[place]] |= 1 << order[place + 1];
            }
        });
        int[] first = ORDERS.get(good.nextSetBit(0));
        int[] last = ORDERS.get(good.length() - 1);
        for (int i = 0; i < 6; i++) {
            due(7, demands, "first(" + i + ")", x.first(i), first[i]);
            due(8, demands, "last(" + i + ")", x.last(i), last[i]);
            due(12, demands, "places(" + i + ")", x.places(i), places[i]);
            due(13, demands, "neighbours(" + i + ")", x.neighbours(i), neighbours[i]);
        }
    }

    private static void askOfSets(RowGroups x, BitSet good, int[] demands) {
        int groups = 0;
        for (int set = 0; set < 64; set++) {
            int left = narrowed(good, set).cardinality();
            boolean inAll = left == good.cardinality();
            groups += bit(inAll);
            due(9, demands, "allowed(" + set + ")", bit(x.allowed(set)), bit(left > 0));
            due(10, demands, "together(" + set + ")", bit(x.together(set)), bit(inAll));
            due(11, demands, "countWith(" + set + ")", x.countWith(set), left);
        }
        due(14, demands, "groups()", x.groups(), groups);
    }

    public static void main(String[] args) {
        fillOrders(new ArrayList<>());
        fillMeeting();
        Map<BitSet, int[]> states = statesWithDemands();
        for (Map.Entry<BitSet, int[]> state : states.entrySet()) {
            if (wrong < 50) {
                askAll(state.getKey(), state.getValue());
            }
        }
        System.out.println(wrong == 0 ? "all answers are as due in " + states.size() + " states"
            : wrong + " answers are not as due");
        if (wrong != 0) {
            System.exit(1);
        }
    }
}
