import java.util.ArrayList;
import java.util.List;

/**
 * Long runs of mixed calls, each answer held against a second program that follows the words of
 * the document and shares nothing with the class. The calls come from a fixed sequence of numbers.
 */
public final class RowGroupsAgainstModel {
    private static final int RUNS = 400;
    private static final int CALLS = 512;
    private static final List<int[]> ORDERS = new ArrayList<>();

    private static int wrong = 0;
    private static long seed = 20261115L;

    private static int next(int bound) {
        seed = seed * 6364136223846793005L + 1442695040888963407L;
        return (int) ((seed >>> 33) % bound);
    }

    private static void fillOrders(List<Integer> begun) {
        if (begun.size() == 6) {
            ORDERS.add(begun.stream().mapToInt(Integer::intValue).toArray());
            return;
        }
        for (int thing = 0; thing < 6; thing++) {
            if (!begun.contains(thing)) {
                List<Integer> longer = new ArrayList<>(begun);
                longer.add(thing);
                fillOrders(longer);
            }
        }
    }

    /** By the distance of the outermost places, not by runs of bits. */
    private static boolean meets(int[] order, int set) {
        int lowest = 6;
        int highest = -1;
        for (int place = 0; place < 6; place++) {
            if ((set & 1 << order[place]) != 0) {
                lowest = Math.min(lowest, place);
                highest = Math.max(highest, place);
            }
        }
        return set == 0 || highest - lowest + 1 == Integer.bitCount(set);
    }

    private static final class Model {
        private final List<Integer> sets = new ArrayList<>();
        private List<int[]> good = ORDERS;

        private static boolean isSet(int set) {
            return 0 <= set && set <= 63;
        }

        private static boolean isThing(int t) {
            return 0 <= t && t <= 5;
        }

        private void changed() {
            good = new ArrayList<>(ORDERS);
            good.removeIf(order -> sets.stream().anyMatch(set -> !meets(order, set)));
        }

        private int with(int set) {
            return (int) good.stream().filter(order -> meets(order, set)).count();
        }

        int demand(int set) {
            if (!isSet(set)) return -1;
            if (sets.size() == 8) return -2;
            if (with(set) == 0) return -4;
            sets.add(set);
            changed();
            return sets.size();
        }

        int undo() {
            if (sets.isEmpty()) return -4;
            int set = sets.remove(sets.size() - 1);
            changed();
            return set;
        }

        int clear() {
            int before = sets.size();
            sets.clear();
            changed();
            return before;
        }

        int at(int i, boolean first) {
            if (!isThing(i)) return -1;
            return good.get(first ? 0 : good.size() - 1)[i];
        }

        int places(int t) {
            if (!isThing(t)) return -1;
            int found = 0;
            for (int[] order : good) {
                for (int place = 0; place < 6; place++) {
                    if (order[place] == t) found |= 1 << place;
                }
            }
            return found;
        }

        int neighbours(int t) {
            if (!isThing(t)) return -1;
            int found = 0;
            for (int[] order : good) {
                for (int place = 0; place < 6; place++) {
                    if (order[place] != t) continue;
                    if (place > 0) found |= 1 << order[place - 1];
                    if (place < 5) found |= 1 << order[place + 1];
                }
            }
            return found;
        }

        int groups() {
            int found = 0;
            for (int set = 0; set < 64; set++) {
                if (with(set) == good.size()) found++;
            }
            return found;
        }
    }

    private static void due(String call, long got, long want) {
        if (got != want) {
            wrong++;
            System.out.println(call + " answered " + got + ", due is " + want);
        }
    }

    private static int someSet() {
        switch (next(12)) {
            case 0: return next(80) - 8;
            case 1: return 3 << next(5);
            case 2: return 1 << next(6) | 1 << next(6);
            case 3: return (1 << next(7)) - 1;
            default: return next(64);
        }
    }

    private static void oneCall(String at, RowGroups x, Model m) {
        int set = someSet();
        int t = next(10) == 0 ? next(40) - 20 : next(6);
        switch (next(20)) {
            case 0: case 1: case 2: case 3: case 4: case 5: case 6:
                due(at + "demand(" + set + ")", x.demand(set), m.demand(set));
                break;
            case 7: case 8: case 9:
                due(at + "undo()", x.undo(), m.undo());
                break;
            case 10:
                // Seldom, so that runs also reach eight demands.
                if (next(8) == 0) {
                    due(at + "clear()", x.clear(), m.clear());
                } else {
                    due(at + "demands()", x.demands(), m.sets.size());
                }
                break;
            case 11:
                due(at + "count()", x.count(), m.good.size());
                break;
            case 12:
                due(at + "first(" + t + ")", x.first(t), m.at(t, true));
                break;
            case 13:
                due(at + "last(" + t + ")", x.last(t), m.at(t, false));
                break;
            case 14:
                due(at + "allowed(" + set + ")", x.allowed(set) ? 1 : 0,
                    Model.isSet(set) && m.with(set) > 0 ? 1 : 0);
                break;
            case 15:
                due(at + "together(" + set + ")", x.together(set) ? 1 : 0,
                    Model.isSet(set) && m.with(set) == m.good.size() ? 1 : 0);
                break;
            case 16:
                due(at + "countWith(" + set + ")", x.countWith(set), Model.isSet(set) ? m.with(set) : -1);
                break;
            case 17:
                due(at + "places(" + t + ")", x.places(t), m.places(t));
                break;
            case 18:
                due(at + "neighbours(" + t + ")", x.neighbours(t), m.neighbours(t));
                break;
            default:
                due(at + "groups()", x.groups(), m.groups());
        }
    }

    public static void main(String[] args) {
        fillOrders(new ArrayList<>());
        due("orders of the model", ORDERS.size(), 720);
        for (int run = 1; run <= RUNS && wrong < 50; run++) {
            RowGroups x = new RowGroups();
            Model m = new Model();
            for (int call = 1; call <= CALLS; call++) {
                oneCall("run " + run + ", call " + call + ": ", x, m);
            }
        }
        System.out.println(wrong == 0 ? "all answers are as due" : wrong + " answers are not as due");
        if (wrong != 0) {
            System.exit(1);
        }
    }
}
